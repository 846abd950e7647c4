/** Promise 17, pass, and how a day goes by the terms. */
final class DaysTest {
    private static final Checks CHECKS = new Checks();

    public static void main(String[] args) {
        passRefused();
        day();
        clampsBurn();
        clampsBurnInRain();
        clampsStop();
        pitsTakeWeather();
        pansBoil();
        pansStop();
        pansShareCoal();
        pansInRain();
        shipsTake();
        shipsByDay();
        weatherBeforeDayEnds();
        CHECKS.end("DaysTest");
    }

    private static void passRefused() {
        AlumWorks works = Setup.panOf(100, 50);
        for (int days : new int[] {0, -1, 61, Integer.MIN_VALUE, Integer.MAX_VALUE}) {
            CHECKS.refusedArgument(works, "pass(" + days + ")", () -> works.pass(days));
        }
    }

    private static void day() {
        AlumWorks works = new AlumWorks();
        CHECKS.due("pass(1)", works.pass(1), 0);
        CHECKS.due("day", works.count(0), 1);
        CHECKS.due("pass(60)", works.pass(60), 0);
        CHECKS.due("day", works.count(0), 61);
    }

    private static void clamp(AlumWorks works, int clamp, int shale, int coal, int burnt, int burns) {
        String name = "clamp " + clamp + " on day " + works.count(0);
        CHECKS.due("shale of " + name, works.clamp(clamp, 0), shale);
        CHECKS.due("coal of " + name, works.clamp(clamp, 1), coal);
        CHECKS.due("burnt of " + name, works.clamp(clamp, 2), burnt);
        CHECKS.due("burning of " + name, works.clamp(clamp, 3), burns);
    }

    private static void clampsBurn() {
        AlumWorks works = new AlumWorks();
        works.bring(0, 100);
        works.pile(100);
        works.pile(20);
        works.pile(50);
        works.light(0, 5);
        works.light(1, 40);
        works.pass(1);
        clamp(works, 0, 92, 3, 8, 1);
        clamp(works, 1, 12, 38, 8, 1);
        clamp(works, 2, 50, 0, 0, 0);
        CHECKS.due("coal of the stores", works.count(2), 55);
        works.pass(1);
        clamp(works, 0, 84, 1, 16, 1);
        clamp(works, 1, 4, 36, 16, 1);
        works.pass(1);
        clamp(works, 0, 76, 0, 24, 0);
        clamp(works, 1, 0, 34, 20, 0);
        works.pass(1);
        clamp(works, 0, 76, 0, 24, 0);
        clamp(works, 1, 0, 34, 20, 0);
        CHECKS.due("light again", works.light(0, 10), 10);
        works.pass(1);
        clamp(works, 0, 68, 8, 32, 1);
    }

    private static void clampsBurnInRain() {
        AlumWorks works = new AlumWorks();
        works.bring(0, 60);
        works.pile(33);
        works.light(0, 60);
        works.setRain(0, 4);
        works.setRain(1, 5);
        works.setRain(2, 9);
        works.setRain(4, 6);
        works.setRain(5, 5);
        works.pass(1);
        clamp(works, 0, 25, 58, 8, 1);
        works.pass(1);
        clamp(works, 0, 21, 56, 12, 1);
        works.pass(1);
        clamp(works, 0, 17, 54, 16, 1);
        works.pass(1);
        clamp(works, 0, 9, 52, 24, 1);
        works.pass(1);
        // Half of the day's 8 is 4, and there is so much, though there are not 8.
        clamp(works, 0, 5, 50, 28, 1);
        works.pass(1);
        clamp(works, 0, 1, 48, 32, 1);
        works.setRain(0, 5);
        works.pass(1);
        clamp(works, 0, 0, 46, 33, 0);
    }

    private static void clampsStop() {
        AlumWorks works = new AlumWorks();
        works.bring(0, 100);
        works.pile(16);
        works.pile(17);
        works.light(0, 4);
        works.light(1, 2);
        works.pass(1);
        clamp(works, 0, 8, 2, 8, 1);
        clamp(works, 1, 9, 0, 8, 0);
        CHECKS.due("one burns", works.count(7), 1);
        works.pass(1);
        clamp(works, 0, 0, 0, 16, 0);
        CHECKS.due("none burns", works.count(7), 0);
    }

    private static void pitsTakeWeather() {
        AlumWorks works = new AlumWorks();
        works.dig(0);
        works.dig(397);
        works.dig(2);
        works.dig(7);
        works.setRain(0, 4);
        works.setRain(2, 9);
        int[][] want = {{0, 400, 6, 11}, {0, 397, 3, 8}, {0, 400, 12, 17}, {0, 397, 9, 14}, {0, 394, 6, 11},
            {0, 391, 3, 8}};
        for (int[] row : want) {
            works.pass(1);
            for (int pit = 0; pit < 4; pit++) {
                CHECKS.due("pit " + pit + " on day " + works.count(0), works.pit(pit, 0), row[pit]);
            }
        }
        Setup.rainAlways(works, 0);
        works.pass(1);
        CHECKS.due("3 less of 3", works.pit(2, 0), 0);
        works.pass(2);
        CHECKS.due("at least 0", works.pit(3, 0), 0);
        Setup.rainAlways(works, 9);
        works.pass(5);
        CHECKS.due("no rain in what is dry", works.pit(3, 0), 0);
        AlumWorks dried = Setup.pitOf(1, 30);
        dried.pass(1);
        Setup.rainAlways(dried, 5);
        dried.pass(1);
        CHECKS.due("no rain in alum alone", dried.pit(0, 0), 0);
        CHECKS.due("its alum stays", dried.pit(0, 1), 30);
    }

    private static void pan(AlumWorks works, int pan, int water, int boils) {
        CHECKS.due("water of pan " + pan, works.about(pan, 0), water);
        CHECKS.due("boiling of pan " + pan, works.about(pan, 4), boils);
    }

    private static void pansBoil() {
        AlumWorks works = Setup.panOf(30, 10);
        works.bring(0, 100);
        works.pass(1);
        pan(works, 0, 30, 0);
        CHECKS.due("coal without boiling", works.count(2), 100);
        works.boil(0);
        works.pass(1);
        pan(works, 0, 18, 1);
        CHECKS.due("coal of one day", works.count(2), 96);
        works.pass(1);
        pan(works, 0, 6, 1);
        works.pass(1);
        pan(works, 0, 0, 1);
        CHECKS.due("coal of three days", works.count(2), 88);
        works.pass(1);
        pan(works, 0, 0, 0);
        CHECKS.due("no coal for a dry pan", works.count(2), 88);
        CHECKS.due("its alum stays", works.about(0, 1), 10);
    }

    private static void pansStop() {
        AlumWorks works = Setup.panOf(100, 10);
        works.bring(0, 7);
        works.boil(0);
        works.pass(1);
        pan(works, 0, 88, 1);
        CHECKS.due("coal left", works.count(2), 3);
        works.pass(1);
        pan(works, 0, 88, 0);
        CHECKS.due("coal stays", works.count(2), 3);
        works.bring(0, 1);
        works.pass(1);
        pan(works, 0, 88, 0);
        works.boil(0);
        works.pass(1);
        pan(works, 0, 76, 1);
        CHECKS.due("just 4 coal", works.count(2), 0);
    }

    private static void pansShareCoal() {
        AlumWorks works = new AlumWorks();
        works.dig(400);
        for (int pan = 0; pan < 3; pan++) {
            works.pan();
            works.draw(0, pan, 50);
            works.boil(pan);
        }
        works.bring(0, 11);
        works.pass(1);
        pan(works, 0, 38, 1);
        pan(works, 1, 38, 1);
        pan(works, 2, 50, 0);
        CHECKS.due("coal left of 11", works.count(2), 3);
        works.bring(0, 1);
        works.pass(1);
        pan(works, 0, 26, 1);
        pan(works, 1, 38, 0);
        pan(works, 2, 50, 0);
    }

    private static void pansInRain() {
        AlumWorks works = Setup.panOf(50, 10);
        Setup.rainAlways(works, 9);
        works.pass(3);
        pan(works, 0, 50, 0);
        Setup.rainAlways(works, 0);
        works.pass(3);
        pan(works, 0, 50, 0);
    }

    private static void stores(AlumWorks works, int fine, int coarse, int coins, int taken) {
        CHECKS.due("fine ones", works.count(4), fine);
        CHECKS.due("coarse ones", works.count(5), coarse);
        CHECKS.due("coins", works.count(6), coins);
        CHECKS.due("taken by ships", works.count(9), taken);
    }

    private static void shipsTake() {
        AlumWorks works = Setup.panOf(100, 40);
        works.bring(1, 40);
        works.pan();
        works.dig(5);
        works.pour(0, 4);
        stores(works, 20, 0, 0, 0);
        works.bring(0, 10);
        works.pile(6);
        works.light(1, 10);
        works.pass(1);
        works.dig(30);
        works.steep(1, 2);
        works.draw(2, 1, 30);
        CHECKS.due("coarse ones come", works.pour(1, 2), 3);
        stores(works, 20, 3, 0, 0);
        Setup.shipsAlways(works, 6);
        CHECKS.due("6 fine ones", works.pass(1), 30);
        stores(works, 14, 3, 30, 6);
        Setup.shipsAlways(works, 15);
        CHECKS.due("14 fine ones and a coarse one", works.pass(1), 72);
        stores(works, 0, 2, 102, 21);
        Setup.shipsAlways(works, 0);
        CHECKS.due("a ship that takes none", works.pass(1), 0);
        stores(works, 0, 2, 102, 21);
        Setup.shipsAlways(works, 60);
        CHECKS.due("the rest, and then none", works.pass(10), 4);
        stores(works, 0, 0, 106, 23);
    }

    private static void shipsByDay() {
        AlumWorks works = Setup.withFine(30); // behind 30 days: the ships' day 2
        works.setShip(1, 2);
        works.setShip(2, 3);
        works.setShip(6, 1);
        int[] coins = {15, 0, 0, 0, 5, 0, 10, 15};
        for (int coin : coins) {
            CHECKS.due("coins of day " + works.count(0), works.pass(1), coin);
        }
        CHECKS.due("coins of 7 days", works.pass(7), 30);
    }

    private static void weatherBeforeDayEnds() {
        AlumWorks works = new AlumWorks();
        works.dig(100);
        works.setRain(5, 9);
        works.pass(5);
        CHECKS.due("five days of sun", works.pit(0, 0), 85);
        works.pass(1);
        CHECKS.due("rain of the day 5", works.pit(0, 0), 94);
        works.pass(6);
        CHECKS.due("and again of the day 11", works.pit(0, 0), 88);
    }
}
