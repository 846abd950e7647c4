/** Works in states that several tests start from. */
final class Setup {
    private Setup() {
    }

    /** Rain of the same height on every day. */
    static void rainAlways(AlumWorks works, int rain) {
        for (int day = 0; day < 6; day++) {
            works.setRain(day, rain);
        }
    }

    /**
     * One pit of so much water and alum, at least 1 of water, with no coal in the stores; its clamp,
     * 0, has no shale left. The alum, at most 100, comes of twice as much burnt shale.
     */
    static AlumWorks pitOf(int water, int alum) {
        AlumWorks works = new AlumWorks();
        if (alum > 0) {
            works.bring(0, 60);
            works.pile(2 * alum);
            works.light(0, 60);
            works.pass(30);
        }
        works.dig(water);
        if (alum > 0) {
            works.steep(0, 0);
        }
        return works;
    }

    /** As pitOf has it, and then all of it drawn into a pan, 0: at most 150 water. */
    static AlumWorks panOf(int water, int alum) {
        AlumWorks works = pitOf(water, alum);
        works.pan();
        works.draw(0, 0, water);
        return works;
    }

    /** So many fine crystals, at most 100, of a pan with its egg swimming; 99 barrels at first. */
    static AlumWorks withFine(int fine) {
        AlumWorks works = panOf(120, fine < 30 ? 40 : 60);
        works.bring(1, 99);
        works.pour(0, fine / 5);
        return works;
    }
}
