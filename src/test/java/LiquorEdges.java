/** The edges of promises 10 to 12: draw, boil, pour. */
final class LiquorEdges {
    private final Edges edges;

    LiquorEdges(Edges edges) {
        this.edges = edges;
    }

    void all() {
        draw();
        drawRefused();
        boil();
        pour();
        pourRefused();
    }

    private void draw() {
        edges.in("Promise 10: draw");
        edges.test("Draws liquor from a pit into a pan: so much water, and of the alum as large a part: alum * water / the "
            + "water of the pit ahead of this.", () -> {
                drawn(150, 100, 150, 100);
                drawn(150, 100, 149, 99);
                drawn(150, 100, 1, 0);
                drawn(100, 100, 1, 1);
                drawn(101, 100, 1, 0);
                drawn(1, 100, 1, 100);
                drawn(100, 3, 33, 0);
                drawn(100, 3, 34, 1);
                drawn(400, 100, 150, 37);
                drawn(400, 0, 150, 0);
                AlumWorks works = Setup.pits(2);
                works.draw(0, 0, 100);
                works.draw(1, 0, 20);
                works.draw(0, 0, 30);
                edges.due("water of three draws", works.about(0, 0), 150);
                edges.due("alum of three draws", works.about(0, 1), 20 + 0 + 6);
            });
        edges.noEdge("- `pit`: the pit", "- `pan`: the pan", "- `water`: how much water");
        edges.test("Returns the alum that comes along.", () -> {
            AlumWorks works = Setup.pitOf(10, 10);
            works.pan();
            edges.due("of 10", works.draw(0, 0, 4), 4);
            edges.due("of 6", works.draw(0, 0, 1), 1);
            edges.due("of the rest", works.draw(0, 0, 5), 5);
            edges.due("all in the pan", works.about(0, 1), 10);
        });
    }

    private void drawn(int water, int alum, int part, int want) {
        AlumWorks works = Setup.pitOf(water, alum);
        works.pan();
        String name = part + " of " + water + " with " + alum + " alum";
        edges.due(name, works.draw(0, 0, part), want);
        edges.due("water of the pan: " + name, works.about(0, 0), part);
        edges.due("alum of the pan: " + name, works.about(0, 1), want);
        edges.due("water of the pit: " + name, works.pit(0, 0), water - part);
        edges.due("alum of the pit: " + name, works.pit(0, 1), alum - want);
    }

    private void drawRefused() {
        edges.test("Throws `IndexOutOfBoundsException` if there is no such pit or pan", () -> {
            edges.numbers(Setup::pits, 4, "draw(.., 0, 1)", (works, pit) -> works.draw(pit, 0, 1));
            edges.numbers(Setup::pans, 3, "draw(0, .., 1)", (works, pan) -> works.draw(0, pan, 1));
        });
        edges.test("Throws `IllegalArgumentException` if water is not 1 to 150", () ->
            edges.range(() -> Setup.pits(4), "draw(1, 0, ..)", 1, 150, Model.ARGUMENT,
                (works, water) -> works.draw(1, 0, water)));
        edges.test("Throws `IllegalStateException` if the pit has not so much water, or the pan would have more than 150 "
            + "water", () -> {
                edges.due("all 149 of the pit", pitAndPan(149, 0).draw(0, 0, 149), 0);
                edges.changesNothing(() -> pitAndPan(149, 0), "150 of 149", works -> works.draw(0, 0, 150), Model.STATE);
                edges.due("the 1 of the pit", pitAndPan(1, 0).draw(0, 0, 1), 0);
                edges.changesNothing(() -> pitAndPan(1, 0), "2 of 1", works -> works.draw(0, 0, 2), Model.STATE);
                edges.changesNothing(() -> pitAndPan(0, 0), "1 of 0", works -> works.draw(0, 0, 1), Model.STATE);
                edges.changesNothing(LiquorEdges::alumAlone, "1 of alum alone", works -> works.draw(0, 0, 1), Model.STATE);
                edges.due("to 150 in the pan", pitAndPan(300, 149).draw(0, 0, 1), 0);
                edges.changesNothing(() -> pitAndPan(300, 149), "to 151", works -> works.draw(0, 0, 2), Model.STATE);
                edges.changesNothing(() -> pitAndPan(300, 150), "to 151 from 150", works -> works.draw(0, 0, 1),
                    Model.STATE);
                edges.changesNothing(() -> pitAndPan(300, 150), "to 300", works -> works.draw(0, 0, 150), Model.STATE);
                edges.changesNothing(() -> pitAndPan(300, 1), "to 151 from 1", works -> works.draw(0, 0, 150), Model.STATE);
            });
    }

    /** A pit and a pan of so much water, without alum. */
    private static AlumWorks pitAndPan(int pit, int pan) {
        AlumWorks works = new AlumWorks();
        works.dig(pit);
        works.dig(pan);
        works.pan();
        if (pan > 0) {
            works.draw(1, 0, pan);
        }
        return works;
    }

    private static AlumWorks alumAlone() {
        AlumWorks works = Setup.pitOf(3, 50);
        works.pan();
        works.pass(1);
        return works;
    }

    private void boil() {
        edges.in("Promise 11: boil");
        edges.test("Has a pan boil, or stops it, if it boils.", () -> {
            for (int pan = 0; pan <= 2; pan++) {
                AlumWorks works = Setup.pans(3);
                for (int time = 1; time <= 3; time++) {
                    works.boil(pan);
                    for (int one = 0; one <= 2; one++) {
                        edges.due("pan " + one + " behind boil(" + pan + ")", works.about(one, 4), one == pan ? time % 2 : 0);
                    }
                }
            }
        });
        edges.noEdge("- `pan`: the pan");
        edges.test("Returns whether it boils then.", () -> {
            AlumWorks works = Setup.pans(1);
            edges.due("at first", works.boil(0), true);
            edges.due("if it boils", works.boil(0), false);
            edges.due("if it was stopped", works.boil(0), true);
            AlumWorks empty = new AlumWorks();
            empty.pan();
            edges.due("without water and coal", empty.boil(0), true);
            empty.pass(1);
            edges.due("if it stopped by itself", empty.boil(0), true);
        });
        edges.test("Throws `IndexOutOfBoundsException` if there is no such pan", () ->
            edges.numbers(Setup::pans, 3, "boil", AlumWorks::boil));
    }

    private void pour() {
        edges.in("Promise 12: pour");
        edges.test("Pours urine into a pan, which is empty then, and does not boil any more.", () -> {
            AlumWorks works = Setup.pans(3);
            for (int pan = 0; pan <= 2; pan++) {
                works.boil(pan);
            }
            works.pour(1, 20);
            for (int what = 0; what <= 4; what++) {
                edges.due("about(1, " + what + ")", works.about(1, what), 0);
            }
            edges.due("barrels", works.count(3), 79);
            edges.due("boiling of the first", works.about(0, 4), 1);
            edges.due("water of the last", works.about(2, 0), 50);
        });
        edges.test("If the egg sinks, coarse crystals come, 2 for each barrel; if it swims, fine ones, 5 for each; if it "
            + "floats high, coarse ones, 3 for each; at most as many as its alum.", () -> {
                poured(81, 20, 1, 0, 2); // strength 19
                poured(80, 20, 1, 5, 0); // 20
                poured(66, 34, 1, 5, 0); // 34
                poured(65, 35, 1, 0, 3); // 35
                poured(150, 10, 4, 0, 8);
                poured(150, 10, 5, 0, 10);
                poured(150, 10, 6, 0, 10);
                poured(80, 20, 3, 15, 0);
                poured(80, 20, 4, 20, 0);
                poured(80, 20, 5, 20, 0);
                poured(60, 36, 11, 0, 33);
                poured(60, 36, 12, 0, 36);
                poured(60, 36, 13, 0, 36);
                poured(150, 1, 20, 0, 1);
                poured(10, 100, 20, 0, 60);
                AlumWorks dry = Setup.boiledOut(12, 100);
                dry.bring(1, 1);
                edges.due("alum alone", dry.pour(0, 1), 3);
            });
        edges.noEdge("- `pan`: the pan", "- `barrels`: how many");
        edges.test("Returns how many crystals come.", () -> {
            edges.due("one of the least alum", pannedWith(2, 1, 99).pour(0, 1), 1);
            edges.due("as many as its alum, with the most barrels", pannedWith(300, 100, 99).pour(0, 20), 50);
            edges.due("the same barrels again", twicePoured(), 15);
        });
    }

    /** A pan of so much water and alum, at most 150 water of the pit's, and so many barrels in the stores. */
    private static AlumWorks pannedWith(int water, int alum, int barrels) {
        AlumWorks works = Setup.pitOf(water, alum);
        if (barrels > 0) {
            works.bring(1, barrels);
        }
        works.pan();
        works.draw(0, 0, Math.min(150, water));
        return works;
    }

    private static int twicePoured() {
        AlumWorks works = Setup.pans(2);
        works.pour(0, 3);
        return works.pour(1, 3);
    }

    private void poured(int water, int alum, int barrels, int fine, int coarse) {
        AlumWorks works = pannedWith(water, alum, 99);
        String name = barrels + " into " + water + " with " + alum + " alum";
        edges.due(name, works.pour(0, barrels), fine + coarse);
        edges.due("fine ones of " + name, works.count(4), fine);
        edges.due("coarse ones of " + name, works.count(5), coarse);
        edges.due("barrels behind " + name, works.count(3), 99 - barrels);
    }

    private void pourRefused() {
        edges.test("Throws `IndexOutOfBoundsException` if there is no such pan", () ->
            edges.numbers(Setup::pans, 3, "pour(.., 1)", (works, pan) -> works.pour(pan, 1)));
        edges.test("Throws `IllegalArgumentException` if barrels is not 1 to 20", () ->
            edges.range(() -> Setup.pans(3), "pour(0, ..)", 1, 20, Model.ARGUMENT,
                (works, barrels) -> works.pour(0, barrels)));
        edges.test("Throws `IllegalStateException` if there are not so many, or the pan has no alum", () -> {
            edges.due("all 19", pannedWith(80, 20, 19).pour(0, 19), 20);
            edges.changesNothing(() -> pannedWith(80, 20, 19), "20 of 19", works -> works.pour(0, 20), Model.STATE);
            edges.due("the one", pannedWith(80, 20, 1).pour(0, 1), 5);
            edges.changesNothing(() -> pannedWith(80, 20, 1), "2 of 1", works -> works.pour(0, 2), Model.STATE);
            edges.changesNothing(() -> pannedWith(80, 20, 0), "1 of 0", works -> works.pour(0, 1), Model.STATE);
            edges.due("into 1 alum", pannedWith(80, 1, 1).pour(0, 1), 1);
            edges.changesNothing(() -> pannedWith(80, 0, 1), "into no alum", works -> works.pour(0, 1), Model.STATE);
            edges.changesNothing(LiquorEdges::pouredOut, "into an empty pan", works -> works.pour(0, 1), Model.STATE);
        });
    }

    private static AlumWorks pouredOut() {
        AlumWorks works = pannedWith(80, 20, 9);
        works.pour(0, 1);
        return works;
    }
}
