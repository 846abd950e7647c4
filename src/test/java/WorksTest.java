/** Promises 5 to 12: pile, light, dig, steep, pan, draw, boil, pour. */
final class WorksTest {
    private static final Checks CHECKS = new Checks();
    private static final int[] NO_NUMBERS = {-1, 4, Integer.MIN_VALUE, Integer.MAX_VALUE};

    public static void main(String[] args) {
        pile();
        light();
        lightRefused();
        dig();
        steep();
        pan();
        draw();
        drawRefused();
        boil();
        pour();
        pourRefused();
        CHECKS.end("WorksTest");
    }

    private static void pile() {
        AlumWorks works = new AlumWorks();
        for (int shale : new int[] {0, -1, 201, Integer.MIN_VALUE, Integer.MAX_VALUE}) {
            CHECKS.refusedArgument(works, "pile(" + shale + ")", () -> works.pile(shale));
        }
        int[] shales = {1, 200, 57, 8};
        for (int number = 0; number < 4; number++) {
            CHECKS.due("pile", works.pile(shales[number]), number);
        }
        for (int number = 0; number < 4; number++) {
            CHECKS.due("shale piled", works.clamp(number, 0), shales[number]);
            CHECKS.due("coal at first", works.clamp(number, 1), 0);
            CHECKS.due("burnt at first", works.clamp(number, 2), 0);
            CHECKS.due("burns at first", works.clamp(number, 3), 0);
        }
        CHECKS.refusedState(works, "a fifth pile", () -> works.pile(1));
        CHECKS.refusedArgument(works, "a fifth pile of 0", () -> works.pile(0));
        CHECKS.refusedArgument(works, "a fifth pile of 201", () -> works.pile(201));
    }

    private static void light() {
        AlumWorks works = new AlumWorks();
        works.bring(0, 200);
        works.pile(100);
        works.pile(50);
        CHECKS.due("light with 1", works.light(1, 1), 1);
        CHECKS.due("it burns", works.clamp(1, 3), 1);
        CHECKS.due("the other does not", works.clamp(0, 3), 0);
        CHECKS.due("coal of the stores", works.count(2), 199);
        CHECKS.due("light it with 30 more", works.light(1, 30), 31);
        CHECKS.due("it burns still", works.clamp(1, 3), 1);
        CHECKS.due("to 60 of it", works.light(1, 29), 60);
        CHECKS.due("above 60 is lost", works.light(1, 40), 60);
        CHECKS.due("but gone of the stores", works.count(2), 100);
        CHECKS.due("its coal", works.clamp(1, 1), 60);
        CHECKS.due("light with 60", works.light(0, 60), 60);
        CHECKS.due("just as much as there is", works.light(0, 40), 60);
        CHECKS.due("no coal is left", works.count(2), 0);
        CHECKS.due("two burn", works.count(7), 2);
        CHECKS.due("shale is not changed", works.clamp(0, 0), 100);
    }

    private static void lightRefused() {
        AlumWorks works = new AlumWorks();
        works.pile(8);
        works.bring(0, 10);
        for (int clamp : NO_NUMBERS) {
            CHECKS.refusedIndex(works, "light(" + clamp + ", 1)", () -> works.light(clamp, 1));
        }
        CHECKS.refusedIndex(works, "light(1, 0)", () -> works.light(1, 0));
        for (int coal : new int[] {0, -1, 61, Integer.MIN_VALUE, Integer.MAX_VALUE}) {
            CHECKS.refusedArgument(works, "light(0, " + coal + ")", () -> works.light(0, coal));
        }
        CHECKS.refusedState(works, "light with 11 of 10", () -> works.light(0, 11));
        works.light(0, 4);
        works.pass(1);
        CHECKS.due("no shale is left", works.clamp(0, 0), 0);
        CHECKS.refusedState(works, "light without shale", () -> works.light(0, 1));
        CHECKS.refusedArgument(works, "light without shale, with 0", () -> works.light(0, 0));
    }

    private static void dig() {
        AlumWorks works = new AlumWorks();
        for (int water : new int[] {-1, 401, Integer.MIN_VALUE, Integer.MAX_VALUE}) {
            CHECKS.refusedArgument(works, "dig(" + water + ")", () -> works.dig(water));
        }
        int[] waters = {0, 400, 33, 1};
        for (int number = 0; number < 4; number++) {
            CHECKS.due("dig", works.dig(waters[number]), number);
        }
        for (int number = 0; number < 4; number++) {
            CHECKS.due("water dug", works.pit(number, 0), waters[number]);
            CHECKS.due("alum at first", works.pit(number, 1), 0);
        }
        CHECKS.refusedState(works, "a fifth pit", () -> works.dig(0));
        CHECKS.refusedArgument(works, "a fifth pit of 401", () -> works.dig(401));
    }

    private static void steep() {
        AlumWorks works = new AlumWorks();
        works.bring(0, 200);
        works.pile(13);
        works.pile(9);
        works.pile(30);
        works.dig(100);
        works.dig(0);
        CHECKS.refusedState(works, "steep with nothing burnt", () -> works.steep(0, 0));
        works.light(0, 60);
        works.light(1, 60);
        works.light(2, 60);
        works.pass(1);
        CHECKS.refusedState(works, "steep while it burns", () -> works.steep(0, 0));
        works.pass(1);
        CHECKS.due("burnt 13", works.clamp(0, 2), 13);
        CHECKS.refusedState(works, "steep in a dry pit", () -> works.steep(0, 1));
        CHECKS.due("steep 13", works.steep(0, 0), 6);
        CHECKS.due("nothing is burnt any more", works.clamp(0, 2), 0);
        CHECKS.due("coal stays", works.clamp(0, 1), 56);
        CHECKS.refusedState(works, "steep it again", () -> works.steep(0, 0));
        CHECKS.due("steep 9 more", works.steep(1, 0), 10);
        CHECKS.due("alum of the pit", works.pit(0, 1), 10);
        CHECKS.due("water of the pit", works.pit(0, 0), 94);
        for (int number : NO_NUMBERS) {
            CHECKS.refusedIndex(works, "steep(" + number + ", 0)", () -> works.steep(number, 0));
            CHECKS.refusedIndex(works, "steep(0, " + number + ")", () -> works.steep(0, number));
        }
        CHECKS.refusedIndex(works, "steep(3, 0)", () -> works.steep(3, 0));
        CHECKS.refusedIndex(works, "steep(0, 2)", () -> works.steep(0, 2));
        steepOne();
    }

    private static void steepOne() {
        AlumWorks works = new AlumWorks();
        works.bring(0, 10);
        works.pile(1);
        works.dig(50);
        works.light(0, 10);
        works.pass(1);
        CHECKS.due("half of 1 is cut", works.steep(0, 0), 0);
        CHECKS.due("the 1 is gone", works.clamp(0, 2), 0);
    }

    private static void pan() {
        AlumWorks works = new AlumWorks();
        for (int number = 0; number < 3; number++) {
            CHECKS.due("pan", works.pan(), number);
            for (int what = 0; what <= 4; what++) {
                CHECKS.due("a new pan", works.about(number, what), 0);
            }
        }
        CHECKS.refusedState(works, "a fourth pan", works::pan);
    }

    private static void draw() {
        AlumWorks works = Setup.pitOf(99, 50);
        works.pan();
        works.pan();
        CHECKS.due("draw 10 of 99", works.draw(0, 1, 10), 5);
        CHECKS.due("pit's water", works.pit(0, 0), 89);
        CHECKS.due("pit's alum", works.pit(0, 1), 45);
        CHECKS.due("pan's water", works.about(1, 0), 10);
        CHECKS.due("pan's alum", works.about(1, 1), 5);
        CHECKS.due("the other pan", works.about(0, 0), 0);
        CHECKS.due("draw 1 of 89", works.draw(0, 1, 1), 0);
        CHECKS.due("pan's water is added to", works.about(1, 0), 11);
        CHECKS.due("draw 44 of 88", works.draw(0, 1, 44), 22);
        CHECKS.due("pan's alum is added to", works.about(1, 1), 27);
        CHECKS.due("draw all the rest", works.draw(0, 0, 44), 23);
        CHECKS.due("pit has no water", works.pit(0, 0), 0);
        CHECKS.due("pit has no alum", works.pit(0, 1), 0);
        CHECKS.due("no alum is lost", works.count(8), 50);
        AlumWorks large = Setup.pitOf(400, 7);
        large.pan();
        CHECKS.due("draw 150", large.draw(0, 0, 150), 2);
    }

    private static void drawRefused() {
        AlumWorks works = Setup.pitOf(250, 50);
        works.dig(5);
        works.dig(0);
        works.pan();
        for (int number : NO_NUMBERS) {
            CHECKS.refusedIndex(works, "draw(" + number + ", 0, 1)", () -> works.draw(number, 0, 1));
            CHECKS.refusedIndex(works, "draw(0, " + number + ", 1)", () -> works.draw(0, number, 1));
        }
        CHECKS.refusedIndex(works, "draw(3, 0, 0)", () -> works.draw(3, 0, 0));
        CHECKS.refusedIndex(works, "draw(0, 1, 151)", () -> works.draw(0, 1, 151));
        for (int water : new int[] {0, -1, 151, Integer.MIN_VALUE, Integer.MAX_VALUE}) {
            CHECKS.refusedArgument(works, "draw(0, 0, " + water + ")", () -> works.draw(0, 0, water));
            CHECKS.refusedArgument(works, "draw(2, 0, " + water + ")", () -> works.draw(2, 0, water));
        }
        CHECKS.refusedState(works, "draw 6 of 5", () -> works.draw(1, 0, 6));
        CHECKS.refusedState(works, "draw 1 of 0", () -> works.draw(2, 0, 1));
        CHECKS.due("draw 5 of 5", works.draw(1, 0, 5), 0);
        CHECKS.refusedState(works, "draw to 151", () -> works.draw(0, 0, 146));
        CHECKS.due("draw to 150", works.draw(0, 0, 145), 29);
        CHECKS.refusedState(works, "draw into a full pan", () -> works.draw(0, 0, 1));
    }

    private static void boil() {
        AlumWorks works = new AlumWorks();
        works.pan();
        works.pan();
        CHECKS.due("boil", works.boil(1), true);
        CHECKS.due("it boils", works.about(1, 4), 1);
        CHECKS.due("the other does not", works.about(0, 4), 0);
        CHECKS.due("boil again stops it", works.boil(1), false);
        CHECKS.due("it does not boil", works.about(1, 4), 0);
        CHECKS.due("boil a third time", works.boil(1), true);
        for (int pan : NO_NUMBERS) {
            CHECKS.refusedIndex(works, "boil(" + pan + ")", () -> works.boil(pan));
        }
        CHECKS.refusedIndex(works, "boil(2)", () -> works.boil(2));
    }

    private static void pour() {
        pourOne(120, 60, 4, 20, 4); // strength 33: fine ones
        pourOne(120, 30, 3, 15, 4); // strength 20: fine ones
        pourOne(81, 20, 3, 6, 5); // strength 19: coarse ones
        pourOne(66, 34, 2, 10, 4); // strength 34: fine ones
        pourOne(65, 35, 2, 6, 5); // strength 35: coarse ones
        pourOne(120, 30, 6, 30, 4); // as many as its alum
        pourOne(120, 30, 7, 30, 4); // at most as many as its alum
        pourOne(81, 20, 11, 20, 5);
        pourOne(65, 35, 12, 35, 5);
        pourOne(150, 1, 1, 1, 5);
        pourOne(100, 100, 20, 60, 5);
        pourTwice(120, 60, 4, 10);
        pourTwice(120, 80, 5, 6);
    }

    /** The crystals of both pours add up: a barrel each, so many crystals in all. */
    private static void pourTwice(int water, int alum, int what, int want) {
        AlumWorks works = Setup.pitOf(water, alum);
        works.bring(1, 20);
        works.pan();
        works.draw(0, 0, water / 2);
        int first = works.pour(0, 1);
        works.draw(0, 0, water / 2);
        int second = works.pour(0, 1);
        CHECKS.due("crystals of two pours", first + second, want);
        CHECKS.due("their count", works.count(what), want);
    }

    private static void pourOne(int water, int alum, int barrels, int crystals, int what) {
        AlumWorks works = Setup.panOf(water, alum);
        String run = "pour of " + barrels + " into " + water + ", " + alum;
        works.bring(1, 20);
        works.boil(0);
        CHECKS.due(run, works.pour(0, barrels), crystals);
        CHECKS.due("count behind " + run, works.count(what), crystals);
        CHECKS.due("other count behind " + run, works.count(9 - what), 0);
        CHECKS.due("barrels behind " + run, works.count(3), 20 - barrels);
        for (int asked = 0; asked <= 4; asked++) {
            CHECKS.due("about " + asked + " behind " + run, works.about(0, asked), 0);
        }
    }

    private static void pourRefused() {
        AlumWorks works = Setup.panOf(100, 50);
        works.pan();
        for (int pan : NO_NUMBERS) {
            CHECKS.refusedIndex(works, "pour(" + pan + ", 1)", () -> works.pour(pan, 1));
        }
        CHECKS.refusedIndex(works, "pour(2, 0)", () -> works.pour(2, 0));
        for (int barrels : new int[] {0, -1, 21, Integer.MIN_VALUE, Integer.MAX_VALUE}) {
            CHECKS.refusedArgument(works, "pour(0, " + barrels + ")", () -> works.pour(0, barrels));
            CHECKS.refusedArgument(works, "pour(1, " + barrels + ")", () -> works.pour(1, barrels));
        }
        CHECKS.refusedState(works, "pour without barrels", () -> works.pour(0, 1));
        works.bring(1, 19);
        CHECKS.refusedState(works, "pour 20 of 19", () -> works.pour(0, 20));
        CHECKS.refusedState(works, "pour without alum", () -> works.pour(1, 1));
        CHECKS.due("pour 19 of 19", works.pour(0, 19), 50);
        works.bring(1, 5);
        CHECKS.refusedState(works, "pour again", () -> works.pour(0, 1));
    }
}
