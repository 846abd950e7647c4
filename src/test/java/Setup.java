/** Works in states that several tests start from. */
final class Setup {
    private Setup() {
    }

    /** Rain of the same height on every day. */
    static void rainAlways(AlumWorks works, int rain) {
        for (int day = 0; day < 6; day++) {
            works.setRain(day, rain);
        }
    }

    /** A ship that takes so many on every day. */
    static void shipsAlways(AlumWorks works, int takes) {
        for (int day = 0; day < 7; day++) {
            works.setShip(day, takes);
        }
    }

    /**
     * One pit of so much water and alum, at least 1 of water, with no coal in the stores; its clamp,
     * 0, has no shale left. The alum, at most 100, comes of twice as much burnt shale.
     */
    static AlumWorks pitOf(int water, int alum) {
        AlumWorks works = new AlumWorks();
        if (alum > 0) {
            works.bring(0, 60);
            works.pile(2 * alum);
            works.light(0, 60);
            works.pass(30);
        }
        works.dig(water);
        if (alum > 0) {
            works.steep(0, 0);
        }
        return works;
    }

    /** As pitOf has it, and then all of it drawn into a pan, 0: at most 150 water. */
    static AlumWorks panOf(int water, int alum) {
        AlumWorks works = pitOf(water, alum);
        works.pan();
        works.draw(0, 0, water);
        return works;
    }

    /** As panOf has it, and then boiled until no water is left, with no coal left; it boils still. */
    static AlumWorks boiledOut(int water, int alum) {
        AlumWorks works = panOf(water, alum);
        works.boil(0);
        for (int left = water; left > 0; left -= 12) {
            works.bring(0, 4);
            works.pass(1);
        }
        return works;
    }

    /** So many fine crystals, at most 100, of a pan with its egg swimming; 99 barrels at first. */
    static AlumWorks withFine(int fine) {
        AlumWorks works = panOf(120, fine < 30 ? 40 : 60);
        works.bring(1, 99);
        works.pour(0, fine / 5);
        return works;
    }

    /**
     * Something of all, in the middle of its work: three clamps, of which one burns, two pits, two pans, of
     * which one boils, fine and coarse crystals, rain and ships.
     */
    static AlumWorks busy() {
        AlumWorks works = Setup.panOf(120, 30);
        works.bring(1, 60);
        works.pan();
        works.pour(0, 6);
        works.bring(0, 200);
        works.pile(60);
        works.light(1, 20);
        works.dig(40);
        works.pass(8);
        works.steep(1, 1);
        works.draw(1, 0, 8);
        works.pour(0, 4);
        works.pile(190);
        works.light(2, 47);
        works.draw(1, 1, 8);
        works.boil(1);
        works.setShip(1, 4);
        works.setShip(3, 13);
        works.setRain(2, 5);
        return works;
    }

    /**
     * As many clamps, pits and pans as there can be. Clamps: 0 and 3 have nothing burnt, 1 burns, 2 rests with much
     * burnt, and 1 alone has shale. Pits: 3 is dry, the others have water. Pans: 0 and 1 have alum, 1
     * boils, 2 is full of water. There are less than 60 coal and less than 20 barrels.
     */
    static AlumWorks full() {
        AlumWorks works = new AlumWorks();
        works.bring(0, 240);
        int[] shales = {200, 40, 190, 70};
        int[] coals = {60, 2, 60, 60};
        for (int clamp = 0; clamp < 4; clamp++) {
            works.pile(shales[clamp]);
            works.light(clamp, coals[clamp]);
        }
        works.pass(25);
        for (int water : new int[] {300, 60, 400, 0}) {
            works.dig(water);
        }
        for (int pan = 0; pan < 3; pan++) {
            works.pan();
        }
        works.steep(0, 0);
        works.steep(3, 1);
        works.bring(1, 19);
        works.draw(0, 0, 100);
        works.pour(0, 4);
        works.draw(1, 1, 20);
        works.pour(1, 2);
        works.draw(0, 0, 100);
        works.draw(1, 1, 20);
        works.draw(2, 2, 150);
        works.light(1, 10);
        works.boil(1);
        works.setRain(2, 9);
        works.setShip(4, 7);
        works.setShip(6, 5);
        works.pass(1);
        return works;
    }

    /** So many clamps, each with 32 shale, 8 burnt and no coal, a pit of 200 water, and 400 coal or more. */
    static AlumWorks clamps(int many) {
        AlumWorks works = new AlumWorks();
        works.bring(0, 500);
        for (int clamp = 0; clamp < many; clamp++) {
            works.pile(40);
            works.light(clamp, 2);
        }
        works.pass(1);
        works.dig(200);
        return works;
    }

    /** So many pits of 200 water, the first with 40 alum, a clamp, 1, with 8 burnt, and an empty pan. */
    static AlumWorks pits(int many) {
        AlumWorks works = new AlumWorks();
        works.bring(0, 100);
        works.pile(80);
        works.pile(40);
        works.light(0, 20);
        works.light(1, 2);
        works.pass(10);
        for (int pit = 0; pit < many; pit++) {
            works.dig(200);
        }
        if (many > 0) {
            works.steep(0, 0);
        }
        works.pan();
        return works;
    }

    /** So many pans, each of 50 water and 15 alum, a pit with as strong a liquor, 99 barrels, and 400 coal. */
    static AlumWorks pans(int many) {
        AlumWorks works = pitOf(300, 90);
        works.bring(0, 400);
        works.bring(1, 99);
        for (int pan = 0; pan < many; pan++) {
            works.pan();
            works.draw(0, pan, 50);
        }
        return works;
    }

    /** 400 fine crystals, as many as the shale of four clamps can give, and no barrels. */
    static AlumWorks mostFine() {
        AlumWorks works = new AlumWorks();
        works.bring(0, 240);
        for (int clamp = 0; clamp < 4; clamp++) {
            works.pile(200);
            works.light(clamp, 60);
        }
        works.pass(25);
        works.pan();
        for (int pit = 0; pit < 4; pit++) {
            works.dig(300);
            works.steep(pit, pit);
            for (int time = 0; time < 2; time++) {
                works.bring(1, 10);
                works.draw(pit, 0, 150);
                works.pour(0, 10);
            }
        }
        return works;
    }
}
