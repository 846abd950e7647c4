/** Promises 13 to 16, 22 and 23: clamp, pit, about, count, mean, digest. */
final class TellTest {
    private static final Checks CHECKS = new Checks();
    private static final int[] NO_NUMBERS = {-1, 1, 4, Integer.MIN_VALUE, Integer.MAX_VALUE};

    public static void main(String[] args) {
        clamp();
        pit();
        about();
        strengths();
        count();
        mean();
        digest();
        digestOfFullWorks();
        CHECKS.end("TellTest");
    }

    private static void clamp() {
        AlumWorks works = new AlumWorks();
        works.bring(0, 100);
        works.pile(100);
        works.light(0, 37);
        works.pass(3);
        int[] want = {76, 31, 24, 1};
        for (int what = 0; what < 4; what++) {
            int asked = what;
            CHECKS.asks(works, "clamp(0, " + what + ")", () -> works.clamp(0, asked), want[what]);
        }
        for (int number : NO_NUMBERS) {
            CHECKS.refusedIndex(works, "clamp(" + number + ", 0)", () -> works.clamp(number, 0));
        }
        for (int what : new int[] {-1, 4, Integer.MIN_VALUE, Integer.MAX_VALUE}) {
            CHECKS.refusedIndex(works, "clamp(0, " + what + ")", () -> works.clamp(0, what));
        }
    }

    private static void pit() {
        AlumWorks works = Setup.pitOf(170, 50);
        int[] want = {170, 50, 22, 1};
        for (int what = 0; what < 4; what++) {
            int asked = what;
            CHECKS.asks(works, "pit(0, " + what + ")", () -> works.pit(0, asked), want[what]);
        }
        for (int number : NO_NUMBERS) {
            CHECKS.refusedIndex(works, "pit(" + number + ", 0)", () -> works.pit(number, 0));
        }
        for (int what : new int[] {-1, 4, Integer.MIN_VALUE, Integer.MAX_VALUE}) {
            CHECKS.refusedIndex(works, "pit(0, " + what + ")", () -> works.pit(0, what));
        }
    }

    private static void about() {
        AlumWorks works = Setup.panOf(90, 60);
        works.boil(0);
        int[] want = {90, 60, 40, 2, 1};
        for (int what = 0; what < 5; what++) {
            int asked = what;
            CHECKS.asks(works, "about(0, " + what + ")", () -> works.about(0, asked), want[what]);
        }
        for (int number : NO_NUMBERS) {
            CHECKS.refusedIndex(works, "about(" + number + ", 0)", () -> works.about(number, 0));
        }
        for (int what : new int[] {-1, 5, Integer.MIN_VALUE, Integer.MAX_VALUE}) {
            CHECKS.refusedIndex(works, "about(0, " + what + ")", () -> works.about(0, what));
        }
    }

    private static void strengths() {
        int[][] rows = { // water, alum, strength, egg
            {100, 0, 0, 0}, {1, 100, 99, 2}, {400, 1, 0, 0}, {81, 20, 19, 0}, {80, 20, 20, 1},
            {66, 34, 34, 1}, {65, 35, 35, 2}, {128, 69, 35, 2}, {129, 69, 34, 1},
        };
        for (int[] row : rows) {
            AlumWorks works = Setup.pitOf(row[0], row[1]);
            CHECKS.due("strength of " + row[0] + ", " + row[1], works.pit(0, 2), row[2]);
            CHECKS.due("egg in " + row[0] + ", " + row[1], works.pit(0, 3), row[3]);
            if (row[0] <= 150) {
                AlumWorks drawn = Setup.panOf(row[0], row[1]);
                CHECKS.due("strength in a pan", drawn.about(0, 2), row[2]);
                CHECKS.due("egg in a pan", drawn.about(0, 3), row[3]);
            }
        }
        AlumWorks dry = Setup.pitOf(3, 10);
        dry.pass(1);
        CHECKS.due("alum without water", dry.pit(0, 2), 100);
        CHECKS.due("egg without water", dry.pit(0, 3), 2);
        AlumWorks one = Setup.pitOf(1, 1);
        one.pass(1);
        CHECKS.due("1 alum without water", one.pit(0, 2), 100);
        AlumWorks none = new AlumWorks();
        none.dig(0);
        CHECKS.due("strength of neither", none.pit(0, 2), 0);
        CHECKS.due("egg in neither", none.pit(0, 3), 0);
    }

    private static void count() {
        AlumWorks works = Setup.withFine(20); // behind 30 days
        works.setRain(1, 4);
        works.setShip(2, 7);
        works.bring(0, 90);
        works.pile(100);
        works.pile(100);
        works.light(1, 60);
        works.light(2, 20);
        works.pan();
        works.dig(100);
        works.pass(1);
        int[] want = {31, 4, 10, 95, 13, 0, 35, 2, 0, 7};
        for (int what = 0; what < 10; what++) {
            int asked = what;
            CHECKS.asks(works, "count(" + what + ")", () -> works.count(asked), want[what]);
        }
        works.pass(10);
        works.steep(2, 1);
        works.draw(1, 1, 40);
        CHECKS.due("alum came into the pan", works.about(1, 1) > 0, true);
        CHECKS.due("alum of pits and pans", works.count(8), 40); // half of ten days' 80 shale
        for (int what : new int[] {-1, 10, Integer.MIN_VALUE, Integer.MAX_VALUE}) {
            CHECKS.refusedIndex(works, "count(" + what + ")", () -> works.count(what));
        }
    }

    private static void mean() {
        AlumWorks works = Setup.pitOf(100, 50); // strength 33
        works.pan();
        works.dig(0);
        CHECKS.asks(works, "mean of one", works::mean, 33.0);
        works.dig(100); // strength 0, but it has water
        CHECKS.asks(works, "mean of two", works::mean, 16.5);
        works.draw(0, 0, 50); // 33 again, in the pit and in the pan
        CHECKS.asks(works, "mean of three", works::mean, 22.0);
        works.pan();
        works.draw(2, 1, 1);
        CHECKS.asks(works, "mean of four", works::mean, 16.5);
        AlumWorks dry = Setup.pitOf(3, 10);
        dry.dig(60);
        dry.dig(60);
        dry.pass(1);
        CHECKS.asks(dry, "mean with alum alone", dry::mean, 100.0 / 3);
        AlumWorks empty = new AlumWorks();
        empty.dig(0);
        empty.pan();
        CHECKS.asks(empty, "mean of none", empty::mean, 0.0);
    }

    /** The digest by the document's words, of what the other calls tell and the tables put in. */
    private static long digestOf(AlumWorks works, int[] rains, int[] ships, int[] many) {
        long d = 1231;
        for (int what = 0; what <= 9; what++) {
            d = d * 31 + works.count(what);
        }
        for (int rain : rains) {
            d = d * 31 + rain;
        }
        for (int takes : ships) {
            d = d * 31 + takes;
        }
        for (int clamp = 0; clamp < many[0]; clamp++) {
            for (int what = 0; what <= 3; what++) {
                d = d * 31 + works.clamp(clamp, what);
            }
        }
        for (int pit = 0; pit < many[1]; pit++) {
            for (int what = 0; what <= 3; what++) {
                d = d * 31 + works.pit(pit, what);
            }
        }
        for (int pan = 0; pan < many[2]; pan++) {
            for (int what = 0; what <= 4; what++) {
                d = d * 31 + works.about(pan, what);
            }
        }
        return d;
    }

    /** As many of all as there can be: every row is in use. */
    private static void digestOfFullWorks() {
        AlumWorks works = new AlumWorks();
        works.bring(0, 500);
        for (int number = 0; number < 4; number++) {
            works.pile(100 + number);
            works.dig(200 + number);
            works.light(number, 10 + number);
        }
        for (int number = 0; number < 3; number++) {
            works.pan();
            works.draw(number + 1, number, 50 + number);
            works.boil(number);
        }
        works.pass(3);
        CHECKS.asks(works, "all that burn", () -> works.count(7), 4);
        CHECKS.asks(works, "coal foreseen", () -> works.foresee(1, 2), 500 - 46 - 48);
        works.pass(5);
        for (int number = 0; number < 4; number++) {
            works.steep(number, number);
        }
        CHECKS.asks(works, "all alum", () -> works.count(8), 20 + 24 + 24 + 28);
        CHECKS.asks(works, "mean of all, the pans boiled dry", works::mean, (10 + 15 + 15 + 18) / 4.0);
        CHECKS.due("digest() of full works", works.digest(), digestOf(works, new int[6], new int[7], new int[] {4, 4, 3}));
    }

    private static void digest() {
        AlumWorks works = new AlumWorks();
        int[] rains = {3, 0, 9, 1, 0, 7};
        int[] ships = {1, 60, 0, 5, 9, 0, 2};
        CHECKS.due("new digest()", works.digest(), digestOf(works, new int[6], new int[7], new int[3]));
        for (int day = 0; day < 6; day++) {
            works.setRain(day, rains[day]);
        }
        for (int day = 0; day < 7; day++) {
            works.setShip(day, ships[day]);
        }
        CHECKS.due("digest() of tables", works.digest(), digestOf(works, rains, ships, new int[3]));
        works.bring(0, 300);
        works.bring(1, 30);
        works.pile(90);
        works.pile(17);
        works.dig(200);
        works.dig(0);
        works.dig(31);
        works.pan();
        works.pan();
        works.light(0, 20);
        works.light(1, 30);
        works.pass(20);
        works.steep(0, 2);
        works.draw(2, 1, 20);
        works.boil(1);
        works.pass(2);
        CHECKS.due("digest() of works", works.digest(), digestOf(works, rains, ships, new int[] {2, 3, 2}));
        long before = works.digest();
        CHECKS.due("digest() again", works.digest(), before);
    }
}
