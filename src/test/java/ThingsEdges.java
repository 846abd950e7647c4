/** The edges of promises 5 to 9: pile, light, dig, steep, pan. */
final class ThingsEdges {
    private final Edges edges;

    ThingsEdges(Edges edges) {
        this.edges = edges;
    }

    void all() {
        pile();
        light();
        lightRefused();
        dig();
        steep();
        steepRefused();
        pan();
    }

    private void pile() {
        edges.in("Promise 5: pile");
        edges.noEdge("- `shale`: the shale of a new clamp");
        edges.test("Returns its number.", () -> {
            AlumWorks works = new AlumWorks();
            for (int clamp = 0; clamp <= 3; clamp++) {
                edges.due("its number", works.pile(10 + clamp), clamp);
                edges.due("its shale", works.clamp(clamp, 0), 10 + clamp);
            }
        });
        edges.test("Throws `IllegalArgumentException` if shale is not 1 to 200", () -> {
            edges.range(AlumWorks::new, "pile", 1, 200, Model.ARGUMENT, AlumWorks::pile);
            edges.range(() -> Setup.clamps(3), "a fourth pile", 1, 200, Model.ARGUMENT, AlumWorks::pile);
        });
        edges.test("Throws `IllegalStateException` if there are 4", () -> {
            edges.due("a fourth", Checks.outcome(() -> Setup.clamps(3).pile(1)), 3);
            edges.changesNothing(() -> Setup.clamps(4), "a fifth, least", works -> works.pile(1), Model.STATE);
            edges.changesNothing(() -> Setup.clamps(4), "a fifth, most", works -> works.pile(200), Model.STATE);
        });
    }

    private void light() {
        edges.in("Promise 6: light");
        edges.test("Gives a clamp coal of the stores, and lights it.", () -> {
            AlumWorks works = Setup.clamps(2);
            int coal = works.count(2);
            works.light(1, 1);
            edges.due("the least of the stores", works.count(2), coal - 1);
            edges.due("it burns", works.clamp(1, 3), 1);
            edges.due("the other does not", works.clamp(0, 3), 0);
            works.light(0, 60);
            edges.due("the most of the stores", works.count(2), coal - 61);
            works.light(1, 2);
            edges.due("it burns still", works.clamp(1, 3), 1);
            works.pass(2);
            edges.due("it stops without coal", works.clamp(1, 3), 0);
            works.light(1, 1);
            edges.due("it burns again", works.clamp(1, 3), 1);
        });
        edges.noEdge("- `clamp`: the clamp", "- `coal`: how much");
        edges.test("Returns its coal then: what is more than 60 is lost.", () -> {
            lit(58, 1, 59);
            lit(59, 1, 60);
            lit(59, 2, 60);
            lit(60, 1, 60);
            lit(60, 60, 60);
            lit(1, 60, 60);
            lit(1, 59, 60);
            lit(1, 58, 59);
        });
    }

    private void lit(int first, int then, int want) {
        AlumWorks works = new AlumWorks();
        works.bring(0, 200);
        works.pile(50);
        String name = then + " behind " + first;
        edges.due("the " + first + " of " + name, works.light(0, first), first);
        edges.due(name, works.light(0, then), want);
        edges.due("coal of the clamp, " + name, works.clamp(0, 1), want);
        edges.due("coal of the stores, " + name, works.count(2), 200 - first - then);
    }

    private void lightRefused() {
        edges.test("Throws `IndexOutOfBoundsException` if there is no such clamp", () ->
            edges.numbers(Setup::clamps, 4, "light(.., 1)", (works, clamp) -> works.light(clamp, 1)));
        edges.test("Throws `IllegalArgumentException` if coal is not 1 to 60", () ->
            edges.range(() -> Setup.clamps(4), "light(0, ..)", 1, 60, Model.ARGUMENT,
                (works, coal) -> works.light(0, coal)));
        edges.test("Throws `IllegalStateException` if there is not so much, or the clamp has no shale", () -> {
            edges.due("all that there is", coalOf(59).light(0, 59), 59);
            edges.changesNothing(() -> coalOf(59), "light with 60 of 59", works -> works.light(0, 60), Model.STATE);
            edges.due("the 1 that there is", coalOf(1).light(0, 1), 1);
            edges.changesNothing(() -> coalOf(1), "light with 2 of 1", works -> works.light(0, 2), Model.STATE);
            edges.changesNothing(() -> coalOf(0), "light with 1 of 0", works -> works.light(0, 1), Model.STATE);
            edges.due("with 1 shale", shaleLeft(1).light(0, 1) > 0, true);
            edges.changesNothing(() -> shaleLeft(0), "light without shale", works -> works.light(0, 1), Model.STATE);
        });
    }

    /** A clamp, and so much coal in the stores. */
    private static AlumWorks coalOf(int coal) {
        AlumWorks works = new AlumWorks();
        if (coal > 0) {
            works.bring(0, coal);
        }
        works.pile(10);
        return works;
    }

    /** A clamp with so much shale left, and as much burnt as burns in a day. */
    private static AlumWorks shaleLeft(int shale) {
        AlumWorks works = new AlumWorks();
        works.bring(0, 100);
        works.pile(8 + shale);
        works.light(0, 2);
        works.pass(1);
        return works;
    }

    private void dig() {
        edges.in("Promise 7: dig");
        edges.noEdge("- `water`: the water of a new pit");
        edges.test("Returns its number.", () -> {
            AlumWorks works = new AlumWorks();
            for (int pit = 0; pit <= 3; pit++) {
                edges.due("its number", works.dig(10 + pit), pit);
                edges.due("its water", works.pit(pit, 0), 10 + pit);
            }
        });
        edges.test("Throws `IllegalArgumentException` if water is not 0 to 400", () -> {
            edges.range(AlumWorks::new, "dig", 0, 400, Model.ARGUMENT, AlumWorks::dig);
            edges.range(() -> Setup.pits(3), "a fourth dig", 0, 400, Model.ARGUMENT, AlumWorks::dig);
        });
        edges.test("Throws `IllegalStateException` if there are 4", () -> {
            edges.due("a fourth", Checks.outcome(() -> Setup.pits(3).dig(1)), 3);
            edges.changesNothing(() -> Setup.pits(4), "a fifth, least", works -> works.dig(0), Model.STATE);
            edges.changesNothing(() -> Setup.pits(4), "a fifth, most", works -> works.dig(400), Model.STATE);
        });
    }

    private void steep() {
        edges.in("Promise 8: steep");
        edges.test("Steeps all that is burnt of a clamp in a pit: half of it (cut) is alum.", () -> {
            steeped(1, 0);
            steeped(2, 1);
            steeped(3, 1);
            steeped(199, 99);
            steeped(200, 100);
        });
        edges.noEdge("- `clamp`: the clamp", "- `pit`: the pit");
        edges.test("Returns the alum of the pit then.", () -> {
            AlumWorks works = Setup.clamps(3);
            works.dig(200);
            edges.due("in the first pit", works.steep(2, 0), 4);
            edges.due("more in it", works.steep(0, 0), 8);
            edges.due("in the second pit", works.steep(1, 1), 4);
            edges.due("alum of the first", works.pit(0, 1), 8);
            edges.due("alum of the second", works.pit(1, 1), 4);
        });
    }

    /** All of a clamp of so much shale, burnt, gives so much alum. */
    private void steeped(int burnt, int alum) {
        AlumWorks works = new AlumWorks();
        works.bring(0, 60);
        works.pile(burnt);
        works.light(0, 60);
        works.pass(30);
        works.dig(50);
        edges.due("steep " + burnt, works.steep(0, 0), alum);
        edges.due("left of " + burnt, works.clamp(0, 2), 0);
        edges.due("alum of " + burnt, works.pit(0, 1), alum);
        edges.due("water with " + burnt, works.pit(0, 0), 50);
    }

    private void steepRefused() {
        edges.test("Throws `IndexOutOfBoundsException` if there is no such clamp or pit", () -> {
            edges.numbers(Setup::clamps, 4, "steep(.., 0)", (works, clamp) -> works.steep(clamp, 0));
            edges.numbers(Setup::pits, 4, "steep(1, ..)", (works, pit) -> works.steep(1, pit));
        });
        edges.test("Throws `IllegalStateException` if nothing is burnt, the clamp burns, or the pit has no water", () -> {
            edges.due("1 is burnt, the clamp rests, the pit has 1 water", steepable(1, 2, 1).steep(0, 0), 0);
            edges.changesNothing(() -> steepable(0, 0, 1), "steep of nothing", works -> works.steep(0, 0), Model.STATE);
            edges.changesNothing(() -> steepable(9, 3, 1), "steep while it burns", works -> works.steep(0, 0), Model.STATE);
            edges.changesNothing(() -> steepable(1, 2, 0), "steep without water", works -> works.steep(0, 0), Model.STATE);
            edges.changesNothing(() -> {
                AlumWorks works = steepable(1, 2, 1);
                works.steep(0, 0);
                return works;
            }, "steep of what was steeped", works -> works.steep(0, 0), Model.STATE);
            edges.changesNothing(() -> {
                AlumWorks works = steepable(9, 2, 3);
                works.pass(1);
                return works;
            }, "steep in what got dry", works -> works.steep(0, 0), Model.STATE);
        });
    }

    /** A clamp of so much shale, lit with so much coal (not, with 0), behind a day; then a pit of so much water. */
    private static AlumWorks steepable(int shale, int coal, int water) {
        AlumWorks works = new AlumWorks();
        works.bring(0, 60);
        works.pile(Math.max(1, shale));
        if (coal > 0) {
            works.light(0, coal);
        }
        works.pass(1);
        works.dig(water);
        return works;
    }

    private void pan() {
        edges.in("Promise 9: pan");
        edges.test("Returns the number of a new pan.", () -> {
            AlumWorks works = new AlumWorks();
            for (int pan = 0; pan <= 2; pan++) {
                edges.due("its number", works.pan(), pan);
                edges.due("its water", works.about(pan, 0), 0);
            }
        });
        edges.test("Throws `IllegalStateException` if there are 3", () -> {
            edges.due("a third", Checks.outcome(() -> Setup.pans(2).pan()), 2);
            edges.changesNothing(() -> Setup.pans(3), "a fourth", AlumWorks::pan, Model.STATE);
        });
    }
}
