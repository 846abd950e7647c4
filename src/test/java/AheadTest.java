/** Promises 18 to 21: right, foresee, barrels, dry. */
final class AheadTest {
    private static final Checks CHECKS = new Checks();
    private static final int[] NO_NUMBERS = {-1, 2, 4, Integer.MIN_VALUE, Integer.MAX_VALUE};

    public static void main(String[] args) {
        rightNow();
        rightLater();
        rightNever();
        rightShares();
        foresee();
        foreseeRefused();
        barrels();
        dry();
        CHECKS.end("AheadTest");
    }

    private static void right(AlumWorks works, int pan, int want) {
        CHECKS.asks(works, "right(" + pan + ")", () -> works.right(pan), want);
    }

    private static void rightNow() {
        right(Setup.panOf(80, 20), 0, 0);
        right(Setup.panOf(66, 34), 0, 0);
        AlumWorks boiling = Setup.panOf(66, 34);
        boiling.bring(0, 100);
        boiling.boil(0);
        right(boiling, 0, 0);
        for (int pan : NO_NUMBERS) {
            CHECKS.refusedIndex(boiling, "right(" + pan + ")", () -> boiling.right(pan));
        }
        CHECKS.refusedIndex(boiling, "right(1)", () -> boiling.right(1));
    }

    private static void rightLater() {
        AlumWorks works = Setup.panOf(150, 20);
        works.bring(0, 100);
        right(works, 0, -1);
        works.boil(0);
        right(works, 0, 6); // 150 - 72 = 78: strength 20
        works.pass(5);
        right(works, 0, 1);
        works.pass(1);
        right(works, 0, 0);
        CHECKS.due("egg behind right's days", works.about(0, 3), 1);
        AlumWorks last = Setup.panOf(150, 2);
        last.bring(0, 500);
        last.boil(0);
        right(last, 0, 12); // 150 - 144 = 6: strength 25
    }

    private static void rightNever() {
        right(Setup.panOf(65, 35), 0, -1);
        right(Setup.panOf(100, 0), 0, -1);
        AlumWorks high = Setup.panOf(65, 35);
        high.bring(0, 500);
        high.boil(0);
        right(high, 0, -1);
        AlumWorks missed = Setup.panOf(150, 1);
        missed.bring(0, 500);
        missed.boil(0);
        right(missed, 0, -1); // 6 water: strength 14; none: 100
        AlumWorks coalless = Setup.panOf(150, 20);
        coalless.bring(0, 23);
        coalless.boil(0);
        right(coalless, 0, -1);
        coalless.bring(0, 1);
        right(coalless, 0, 6);
    }

    /** Two pans of one stores' coal: what the first takes, the second misses. */
    private static void rightShares() {
        AlumWorks works = Setup.pitOf(300, 40);
        works.pan();
        works.pan();
        works.draw(0, 0, 150);
        works.draw(0, 1, 150);
        works.bring(0, 44);
        works.boil(0);
        works.boil(1);
        right(works, 0, 6);
        right(works, 1, -1);
        works.bring(0, 4);
        right(works, 1, 6);
    }

    private static void foreseeAsDue(AlumWorks works, int days, int what, int want) {
        CHECKS.asks(works, "foresee(" + days + ", " + what + ")", () -> works.foresee(days, what), want);
    }

    private static void foresee() {
        AlumWorks works = Setup.panOf(120, 60);
        works.pan();
        works.bring(1, 50);
        works.pour(0, 6);
        works.bring(0, 300);
        works.pile(100);
        works.pile(20);
        works.light(1, 60);
        works.light(2, 10);
        works.dig(90);
        works.draw(1, 1, 60);
        works.boil(1);
        works.setRain(3, 7);
        works.setShip(0, 11);
        works.setShip(4, 3);
        foreseeAsDue(works, 1, 2, 226);
        foreseeAsDue(works, 5, 2, 210);
        foreseeAsDue(works, 60, 2, 210);
        foreseeAsDue(works, 1, 7, 2);
        foreseeAsDue(works, 3, 7, 1);
        foreseeAsDue(works, 60, 7, 0);
        foreseeAsDue(works, 2, 4, 30);
        foreseeAsDue(works, 3, 4, 27);
        foreseeAsDue(works, 3, 6, 15);
        foreseeAsDue(works, 3, 5, 0);
        foreseeAsDue(works, 60, 6, 150);
        foreseeAsTheDaysGo();
        foreseeFirstClamp();
    }

    private static void foreseeFirstClamp() {
        AlumWorks works = new AlumWorks();
        works.bring(0, 100);
        works.pile(80);
        works.light(0, 12);
        foreseeAsDue(works, 5, 7, 1);
        foreseeAsDue(works, 6, 7, 0);
        for (int number = 1; number < 4; number++) {
            works.pile(45);
            works.light(number, 20);
        }
        foreseeAsDue(works, 5, 7, 4);
        foreseeAsDue(works, 6, 7, 0);
        works.setRain(3, 5);
        foreseeAsDue(works, 6, 7, 3);
    }

    private static void foreseeAsTheDaysGo() {
        AlumWorks now = Setup.busy();
        CHECKS.due("fine ones to foresee", now.count(4) > 0, true);
        CHECKS.due("coarse ones to foresee", now.count(5) > 0, true);
        for (int days = 1; days <= 60; days++) {
            AlumWorks asked = Setup.busy();
            AlumWorks gone = Setup.busy();
            gone.pass(days);
            for (int what : new int[] {2, 4, 5, 6, 7}) {
                foreseeAsDue(asked, days, what, gone.count(what));
            }
        }
    }

    private static void foreseeRefused() {
        AlumWorks works = Setup.busy();
        for (int days : new int[] {0, -1, 61, Integer.MIN_VALUE, Integer.MAX_VALUE}) {
            CHECKS.refusedArgument(works, "foresee(" + days + ", 2)", () -> works.foresee(days, 2));
            CHECKS.refusedArgument(works, "foresee(" + days + ", 3)", () -> works.foresee(days, 3));
        }
        for (int what : new int[] {-1, 0, 1, 3, 8, 9, 10, Integer.MIN_VALUE, Integer.MAX_VALUE}) {
            CHECKS.refusedIndex(works, "foresee(1, " + what + ")", () -> works.foresee(1, what));
            CHECKS.refusedIndex(works, "foresee(60, " + what + ")", () -> works.foresee(60, what));
        }
    }

    private static void barrels() {
        int[][] rows = { // water, alum, barrels
            {120, 30, 6}, {120, 31, 7}, {66, 34, 7}, {150, 1, 1}, {81, 20, 10}, {82, 19, 10},
            {65, 35, 12}, {60, 36, 12}, {60, 60, 20}, {60, 61, 20}, {50, 100, 20}, {60, 57, 19},
            {150, 37, 19}, {150, 38, 8}, {150, 75, 15}, {150, 2, 1}, {150, 3, 2}, {150, 4, 2}, {150, 5, 3},
        };
        for (int[] row : rows) {
            AlumWorks works = Setup.panOf(row[0], row[1]);
            String call = "barrels(0) with " + row[0] + ", " + row[1];
            CHECKS.asks(works, call, () -> works.barrels(0), row[2]);
            works.bring(1, 5);
            CHECKS.asks(works, call + " and 5 barrels", () -> works.barrels(0), row[2]);
        }
        AlumWorks works = Setup.panOf(100, 50);
        works.pan();
        CHECKS.asks(works, "barrels without alum", () -> works.barrels(1), -1);
        for (int pan : NO_NUMBERS) {
            CHECKS.refusedIndex(works, "barrels(" + pan + ")", () -> works.barrels(pan));
        }
    }

    private static void dry() {
        int[][] rows = { // water, alum, water to go
            {100, 0, -1}, {400, 1, 396}, {80, 20, 0}, {81, 20, 1}, {100, 20, 20}, {10, 100, 0},
            {400, 100, 0}, {400, 99, 4}, {1, 1, 0}, {5, 1, 1}, {200, 7, 172},
        };
        for (int[] row : rows) {
            AlumWorks works = Setup.pitOf(row[0], row[1]);
            CHECKS.asks(works, "dry(0) with " + row[0] + ", " + row[1], () -> works.dry(0), row[2]);
        }
        AlumWorks works = Setup.pitOf(3, 10);
        works.dig(0);
        works.pass(1);
        CHECKS.asks(works, "dry with alum alone", () -> works.dry(0), 0);
        CHECKS.asks(works, "dry with neither", () -> works.dry(1), -1);
        for (int pit : NO_NUMBERS) {
            CHECKS.refusedIndex(works, "dry(" + pit + ")", () -> works.dry(pit));
        }
    }
}
