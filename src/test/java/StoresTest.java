/** Promises 1 to 4: a new object, bring, setRain, setShip. */
final class StoresTest {
    private static final Checks CHECKS = new Checks();

    public static void main(String[] args) {
        newObject();
        bring();
        setRain();
        setShip();
        CHECKS.end("StoresTest");
    }

    private static void newObject() {
        AlumWorks works = new AlumWorks();
        for (int what = 0; what <= 9; what++) {
            int asked = what;
            CHECKS.asks(works, "new count(" + what + ")", () -> works.count(asked), 0);
        }
        CHECKS.refusedIndex(works, "new clamp(0, 0)", () -> works.clamp(0, 0));
        CHECKS.refusedIndex(works, "new pit(0, 0)", () -> works.pit(0, 0));
        CHECKS.refusedIndex(works, "new about(0, 0)", () -> works.about(0, 0));
        CHECKS.asks(works, "new mean()", works::mean, 0.0);
        for (int day = 0; day < 6; day++) {
            CHECKS.due("new setRain", works.setRain(day, 0), 0);
        }
        for (int day = 0; day < 7; day++) {
            CHECKS.due("new setShip", works.setShip(day, 0), 0);
        }
        AlumWorks other = new AlumWorks();
        other.bring(0, 5);
        CHECKS.due("coal of another object", works.count(2), 0);
    }

    private static void bring() {
        AlumWorks works = new AlumWorks();
        CHECKS.due("bring coal", works.bring(0, 1), 1);
        CHECKS.due("bring coal to 500", works.bring(0, 499), 500);
        CHECKS.due("bring coal above 500", works.bring(0, 1), 500);
        CHECKS.due("coal", works.count(2), 500);
        CHECKS.due("no barrels yet", works.count(3), 0);
        CHECKS.due("bring barrels", works.bring(1, 98), 98);
        CHECKS.due("bring a barrel more", works.bring(1, 1), 99);
        CHECKS.due("bring barrels above 99", works.bring(1, 500), 99);
        CHECKS.due("barrels", works.count(3), 99);
        CHECKS.due("the same coal", works.count(2), 500);
        AlumWorks full = new AlumWorks();
        CHECKS.due("bring 500 coal at once", full.bring(0, 500), 500);
        CHECKS.due("bring 500 barrels at once", full.bring(1, 500), 99);
        for (int what : new int[] {-1, 2, Integer.MIN_VALUE, Integer.MAX_VALUE}) {
            CHECKS.refusedIndex(works, "bring(" + what + ", 1)", () -> works.bring(what, 1));
            CHECKS.refusedIndex(works, "bring(" + what + ", 0)", () -> works.bring(what, 0));
        }
        for (int many : new int[] {0, -1, 501, Integer.MIN_VALUE, Integer.MAX_VALUE}) {
            CHECKS.refusedArgument(works, "bring(0, " + many + ")", () -> works.bring(0, many));
            CHECKS.refusedArgument(works, "bring(1, " + many + ")", () -> works.bring(1, many));
        }
    }

    private static void setRain() {
        AlumWorks works = new AlumWorks();
        for (int day = 0; day < 6; day++) {
            CHECKS.due("setRain first", works.setRain(day, 9 - day), 0);
        }
        for (int day = 0; day < 14; day++) {
            CHECKS.due("rain of day " + day, works.count(1), 9 - day % 6);
            works.pass(1);
        }
        for (int day = 0; day < 6; day++) {
            CHECKS.due("setRain again", works.setRain(day, 0), 9 - day);
        }
        for (int day : new int[] {-1, 6, Integer.MIN_VALUE, Integer.MAX_VALUE}) {
            CHECKS.refusedIndex(works, "setRain(" + day + ", 1)", () -> works.setRain(day, 1));
            CHECKS.refusedIndex(works, "setRain(" + day + ", 10)", () -> works.setRain(day, 10));
        }
        for (int rain : new int[] {-1, 10, Integer.MIN_VALUE, Integer.MAX_VALUE}) {
            CHECKS.refusedArgument(works, "setRain(0, " + rain + ")", () -> works.setRain(0, rain));
            CHECKS.refusedArgument(works, "setRain(5, " + rain + ")", () -> works.setRain(5, rain));
        }
    }

    private static void setShip() {
        AlumWorks works = new AlumWorks();
        for (int day = 0; day < 7; day++) {
            CHECKS.due("setShip first", works.setShip(day, 60 - day), 0);
        }
        for (int day = 0; day < 7; day++) {
            CHECKS.due("setShip again", works.setShip(day, 0), 60 - day);
        }
        for (int day : new int[] {-1, 7, Integer.MIN_VALUE, Integer.MAX_VALUE}) {
            CHECKS.refusedIndex(works, "setShip(" + day + ", 1)", () -> works.setShip(day, 1));
            CHECKS.refusedIndex(works, "setShip(" + day + ", 61)", () -> works.setShip(day, 61));
        }
        for (int takes : new int[] {-1, 61, Integer.MIN_VALUE, Integer.MAX_VALUE}) {
            CHECKS.refusedArgument(works, "setShip(0, " + takes + ")", () -> works.setShip(0, takes));
            CHECKS.refusedArgument(works, "setShip(6, " + takes + ")", () -> works.setShip(6, takes));
        }
    }
}
