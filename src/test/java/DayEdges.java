/** The edges that the five steps of a day name. */
final class DayEdges {
    private final Edges edges;

    DayEdges(Edges edges) {
        this.edges = edges;
    }

    void all() {
        edges.in("Terms");
        edges.noEdge("A day goes like this, by its rain:");
        clampsBurn();
        pitsTakeWeather();
        pansBoil();
        shipTakes();
        edges.test("5. The day is 1 greater.", () -> {
            AlumWorks works = new AlumWorks();
            for (int day = 0; day <= 127; day++) {
                edges.due("day", works.count(0), day);
                works.pass(1);
            }
            edges.due("60 days of one call", works.pass(60) + works.count(0), 188);
            ofTheDayAheadOfIt();
        });
    }

    /** Rain and ship are those of the day that ends, not of the one that begins. */
    private void ofTheDayAheadOfIt() {
        AlumWorks works = Setup.withFine(20); // behind 30 days: the weather's day 0, the ships' day 2
        works.dig(100);
        works.setRain(0, 7);
        works.setRain(1, 2);
        works.setShip(2, 3);
        works.setShip(3, 1);
        edges.due("coins of the first day", works.pass(1), 15);
        edges.due("rain of the first day", works.pit(1, 0), 107);
        edges.due("coins of the second", works.pass(1), 5);
        edges.due("rain of the second", works.pit(1, 0), 109);
    }

    private void clampsBurn() {
        edges.test("1. Clamps that burn, by numbers: each has 2 less coal (at least 0),", () -> {
            afterADay(1, 0, 100, 0, 92, 8, 0);
            afterADay(2, 0, 100, 0, 92, 8, 0);
            afterADay(3, 0, 100, 1, 92, 8, 1);
            afterADay(60, 0, 100, 58, 92, 8, 1);
            AlumWorks works = Setup.clamps(4);
            works.light(0, 5);
            works.light(3, 6);
            works.pass(1);
            int[] coals = {3, 0, 0, 4};
            for (int clamp = 0; clamp < 4; clamp++) {
                edges.due("coal of clamp " + clamp, works.clamp(clamp, 1), coals[clamp]);
                edges.due("burnt of clamp " + clamp, works.clamp(clamp, 2), coals[clamp] > 0 ? 16 : 8);
            }
        });
        edges.test("and 8 shale are burnt, half of that (cut) with a rain of 5 or more, as far as there is some.", () -> {
            for (int rain : new int[] {0, 1, 4}) {
                afterADay(9, rain, 9, 7, 1, 8, 1);
                afterADay(9, rain, 8, 7, 0, 8, 0);
                afterADay(9, rain, 7, 7, 0, 7, 0);
                afterADay(9, rain, 1, 7, 0, 1, 0);
            }
            for (int rain : new int[] {5, 6, 9}) {
                afterADay(9, rain, 9, 7, 5, 4, 1);
                afterADay(9, rain, 5, 7, 1, 4, 1);
                afterADay(9, rain, 4, 7, 0, 4, 0);
                afterADay(9, rain, 3, 7, 0, 3, 0);
                afterADay(9, rain, 1, 7, 0, 1, 0);
            }
        });
        edges.test("Without coal, or without shale, it does not burn any more then.", () -> {
            afterADay(2, 0, 9, 0, 1, 8, 0);
            afterADay(3, 0, 9, 1, 1, 8, 1);
            afterADay(3, 0, 8, 1, 0, 8, 0);
            afterADay(2, 0, 8, 0, 0, 8, 0);
            AlumWorks works = Setup.clamps(1);
            works.pass(5);
            edges.due("shale behind days without coal", works.clamp(0, 0), 32);
            AlumWorks burnt = Setup.pitOf(1, 50);
            edges.due("coal behind days without shale", burnt.clamp(0, 1), 60 - 2 * 13);
        });
    }

    /** A clamp of so much shale, lit with so much coal, has this behind a day of so much rain. */
    private void afterADay(int lit, int rain, int shale, int coal, int left, int burnt, int burns) {
        AlumWorks works = new AlumWorks();
        works.setRain(0, rain);
        works.bring(0, 100);
        works.pile(shale);
        works.light(0, lit);
        works.pass(1);
        String name = " of " + shale + " shale and " + lit + " coal in a rain of " + rain;
        edges.due("shale" + name, works.clamp(0, 0), left);
        edges.due("coal" + name, works.clamp(0, 1), coal);
        edges.due("burnt" + name, works.clamp(0, 2), burnt);
        edges.due("burning" + name, works.clamp(0, 3), burns);
        edges.due("clamps that burn" + name, works.count(7), burns);
        edges.due("coal of the stores" + name, works.count(2), 100 - lit);
    }

    private void pitsTakeWeather() {
        edges.test("2. Pits: each with water has the rain more water (at most 400),", () -> {
            pit(0, 1, 0);
            pit(0, 9, 0);
            pit(1, 1, 2);
            pit(1, 9, 10);
            pit(398, 1, 399);
            pit(399, 1, 400);
            pit(400, 1, 400);
            pit(391, 9, 400);
            pit(392, 9, 400);
            pit(400, 9, 400);
        });
        edges.test("and then, with a rain of 0, 3 less (at least 0).", () -> {
            pit(0, 0, 0);
            pit(1, 0, 0);
            pit(2, 0, 0);
            pit(3, 0, 0);
            pit(4, 0, 1);
            pit(400, 0, 397);
            pit(4, 1, 5);
            AlumWorks works = Setup.pitOf(1, 30);
            Setup.rainAlways(works, 9);
            works.setRain(0, 0);
            works.pass(6);
            edges.due("rain in alum without water", works.pit(0, 0), 0);
            edges.due("alum that got dry", works.pit(0, 1), 30);
        });
    }

    /** All of four pits take the weather alike. */
    private void pit(int water, int rain, int want) {
        AlumWorks works = new AlumWorks();
        works.setRain(0, rain);
        for (int pit = 0; pit < 4; pit++) {
            works.dig(water);
        }
        works.pass(1);
        for (int pit = 0; pit < 4; pit++) {
            edges.due("pit " + pit + " of " + water + " in a rain of " + rain, works.pit(pit, 0), want);
        }
    }

    private void pansBoil() {
        edges.test("3. Pans that boil, by numbers: each takes 4 coal of the stores, and has 12 less water (at least 0).",
            () -> {
                pan(50, 4, 38, 0, 1);
                pan(50, 500, 38, 496, 1);
                pan(13, 4, 1, 0, 1);
                pan(12, 4, 0, 0, 1);
                pan(11, 4, 0, 0, 1);
                pan(1, 4, 0, 0, 1);
                pans(12, 38, 38, 38, 0);
                pans(11, 38, 38, 50, 3);
                pans(8, 38, 38, 50, 0);
                pans(7, 38, 50, 50, 3);
                pans(4, 38, 50, 50, 0);
                pans(3, 50, 50, 50, 3);
            });
        edges.test("With less coal in the stores, or without water, it does not boil any more, and nothing happens to it.",
            () -> {
                pan(50, 3, 50, 3, 0);
                pan(50, 0, 50, 0, 0);
                pan(0, 4, 0, 4, 0);
                pan(0, 3, 0, 3, 0);
                AlumWorks works = Setup.boiledOut(24, 7);
                edges.due("it boils behind its last water", works.about(0, 4), 1);
                works.bring(0, 4);
                works.pass(1);
                edges.due("it does not behind a day without", works.about(0, 4), 0);
                edges.due("coal for a dry pan", works.count(2), 4);
                edges.due("alum of a dry pan", works.about(0, 1), 7);
                dryPanLeavesCoal();
            });
    }

    /** A pan of so much water that boils, and so much coal in the stores: what is there behind a day. */
    private void pan(int water, int coal, int left, int coalLeft, int boils) {
        AlumWorks works = new AlumWorks();
        works.dig(100);
        works.pan();
        if (water > 0) {
            works.draw(0, 0, water);
        }
        if (coal > 0) {
            works.bring(0, coal);
        }
        works.boil(0);
        works.pass(1);
        String name = " of a pan of " + water + " with " + coal + " coal";
        edges.due("water" + name, works.about(0, 0), left);
        edges.due("coal" + name, works.count(2), coalLeft);
        edges.due("boiling" + name, works.about(0, 4), boils);
    }

    /** Three pans of 50 water each that boil: those with less water go on, the others have stopped. */
    private void pans(int coal, int first, int second, int third, int coalLeft) {
        AlumWorks works = new AlumWorks();
        works.dig(400);
        for (int pan = 0; pan < 3; pan++) {
            works.pan();
            works.draw(0, pan, 50);
            works.boil(pan);
        }
        works.bring(0, coal);
        works.pass(1);
        int[] waters = {first, second, third};
        for (int pan = 0; pan < 3; pan++) {
            String name = " of pan " + pan + " with " + coal + " coal";
            edges.due("water" + name, works.about(pan, 0), waters[pan]);
            edges.due("boiling" + name, works.about(pan, 4), waters[pan] < 50 ? 1 : 0);
        }
        edges.due("left of " + coal + " coal", works.count(2), coalLeft);
    }

    private void dryPanLeavesCoal() {
        AlumWorks dry = new AlumWorks();
        dry.dig(50);
        dry.pan();
        dry.pan();
        dry.draw(0, 1, 50);
        dry.bring(0, 4);
        dry.boil(0);
        dry.boil(1);
        dry.pass(1);
        edges.due("water of the pan behind a dry one", dry.about(1, 0), 38);
        edges.due("the dry one", dry.about(0, 4), 0);
        AlumWorks stopped = Setup.pans(1);
        stopped.boil(0);
        stopped.boil(0);
        stopped.pass(1);
        edges.due("water of a pan that does not boil", stopped.about(0, 0), 50);
    }

    private void shipTakes() {
        edges.test("4. The ship of the day takes as many crystals as it can, fine ones first: 5 coins for each fine one, 2 "
            + "for each coarse one.", () -> {
                ship(0, 20, 6, 0);
                ship(1, 19, 6, 5);
                ship(19, 1, 6, 95);
                ship(20, 0, 6, 100);
                ship(21, 0, 5, 102);
                ship(25, 0, 1, 110);
                ship(26, 0, 0, 112);
                ship(27, 0, 0, 112);
                ship(60, 0, 0, 112);
                AlumWorks many = Setup.mostFine();
                Setup.shipsAlways(many, 60);
                edges.due("coins of 60 fine ones", many.pass(1), 300);
                edges.due("fine ones left of 400", many.count(4), 340);
                AlumWorks none = new AlumWorks();
                Setup.shipsAlways(none, 60);
                edges.due("coins of no crystals", none.pass(60), 0);
            });
    }

    /** The ship of a day takes of 20 fine ones and 6 coarse ones; so many are left, and so many coins come. */
    private void ship(int takes, int fine, int coarse, int coins) {
        AlumWorks works = Setup.pitOf(300, 100);
        works.bring(1, 6);
        works.pan();
        works.draw(0, 0, 150);
        works.pour(0, 4);
        works.draw(0, 0, 100);
        works.bring(0, 20);
        works.boil(0);
        works.pass(5);
        works.boil(0);
        works.pour(0, 2);
        edges.due("fine ones at first", works.count(4), 20);
        edges.due("coarse ones at first", works.count(5), 6);
        Setup.shipsAlways(works, takes);
        edges.due("coins of a ship of " + takes, works.pass(1), coins);
        edges.due("fine ones behind a ship of " + takes, works.count(4), fine);
        edges.due("coarse ones behind a ship of " + takes, works.count(5), coarse);
        edges.due("all coins behind a ship of " + takes, works.count(6), coins);
        edges.due("taken by a ship of " + takes, works.count(9), 26 - fine - coarse);
    }
}
