/** The edges of promises 17 to 21: pass, right, foresee, barrels, dry. */
final class AheadEdges {
    private final Edges edges;

    AheadEdges(Edges edges) {
        this.edges = edges;
    }

    void all() {
        pass();
        right();
        foresee();
        barrels();
        dry();
    }

    private void pass() {
        edges.in("Promise 17: pass");
        edges.test("Lets days go by.", () -> {
            for (int days : new int[] {1, 2, 59, 60}) {
                AlumWorks works = Setup.full();
                AlumWorks single = Setup.full();
                works.pass(days);
                for (int day = 0; day < days; day++) {
                    single.pass(1);
                }
                edges.due("the day behind " + days, works.count(0), 26 + days);
                edges.due(days + " days behind single ones", Portrait.takenOf(works), Portrait.takenOf(single));
            }
        });
        edges.noEdge("- `days`: how many");
        edges.test("Returns how many coins come in.", () -> {
            AlumWorks works = Setup.mostFine();
            Setup.shipsAlways(works, 6);
            edges.due("of one day", works.pass(1), 30);
            edges.due("of two more", works.pass(2), 60);
            edges.due("until there are no more", works.pass(60), 1800);
            edges.due("of no crystals left", works.pass(60), 110);
            edges.due("of none at all", works.pass(60), 0);
            edges.due("of no ships", Setup.mostFine().pass(60), 0);
        });
        edges.test("Throws `IllegalArgumentException` if days is not 1 to 60", () -> {
            edges.range(Setup::full, "pass", 1, 60, Model.ARGUMENT, AlumWorks::pass);
            edges.range(AlumWorks::new, "pass of new works", 1, 60, Model.ARGUMENT, AlumWorks::pass);
        });
    }

    private void right() {
        edges.in("Promise 18: right");
        edges.noEdge("- `pan`: a pan");
        edges.test("Returns behind how many days the egg swims in it, if nothing is done: 0 if it does now, at most 60; -1 if "
            + "not by then (nothing is changed).", () -> {
                rightIn(81, 20, 0, false, -1); // strength 19
                rightIn(80, 20, 0, false, 0); // 20
                rightIn(66, 34, 0, false, 0); // 34
                rightIn(65, 35, 0, false, -1); // 35
                rightIn(81, 20, 500, true, 1);
                rightIn(66, 34, 500, true, 0);
                rightIn(65, 35, 500, true, -1);
                rightIn(81, 20, 500, false, -1);
                rightIn(81, 20, 3, true, -1);
                rightIn(81, 20, 4, true, 1);
                rightIn(92, 20, 4, true, 1); // 80 water, strength 20
                rightIn(93, 20, 7, true, -1); // 81 water, and then no coal
                rightIn(93, 20, 8, true, 2);
                rightIn(150, 2, 500, true, 12); // 6 water: the last day on which it can swim
                rightIn(150, 2, 47, true, -1);
                rightIn(150, 1, 500, true, -1); // 6 water, and then alum alone: it never swims
                rightIn(100, 0, 500, true, -1);
                edges.changesNothing(() -> Setup.pans(3), "right(2)", works -> works.right(2), 0);
            });
        edges.test("Throws `IndexOutOfBoundsException` if there is no such pan", () ->
            edges.numbers(Setup::pans, 3, "right", AlumWorks::right));
    }

    private void rightIn(int water, int alum, int coal, boolean boils, int want) {
        String name = "right(0) with " + water + " water, " + alum + " alum, " + coal + " coal, boiling " + boils;
        edges.changesNothing(() -> {
            AlumWorks works = Setup.pitOf(water, alum);
            works.pan();
            works.draw(0, 0, water);
            if (coal > 0) {
                works.bring(0, coal);
            }
            if (boils) {
                works.boil(0);
            }
            return works;
        }, name, works -> works.right(0), want);
    }

    private void foresee() {
        edges.in("Promise 19: foresee");
        edges.test("- `days`: how many, 1 to 60", () -> {
            for (int days : new int[] {1, 2, 59, 60}) {
                edges.changesNothing(AheadEdges::shipEachDay, "foresee(" + days + ", 6)", works -> works.foresee(days, 6),
                    5 * days);
            }
        });
        edges.test("- `what`: 2, 4, 5, 6 or 7 as count() has it", () -> {
            for (int what : new int[] {2, 4, 5, 6, 7}) {
                for (int days : new int[] {1, 2, 5, 60}) {
                    AlumWorks gone = Setup.full();
                    gone.pass(days);
                    edges.changesNothing(Setup::full, "foresee(" + days + ", " + what + ")",
                        works -> works.foresee(days, what), gone.count(what));
                }
            }
            int[] burning = {3, 1, 1, 0, 0};
            for (int days = 1; days <= 5; days++) {
                int asked = days;
                edges.changesNothing(AheadEdges::clampsThatEnd, "clamps that burn behind " + days,
                    works -> works.foresee(asked, 7), burning[days - 1]);
            }
        });
        edges.test("Returns this, behind so many days, if nothing is done (nothing is changed).", () -> {
            AlumWorks works = shipEachDay();
            edges.due("60 days ahead", works.foresee(60, 4), 340);
            edges.due("1 day ahead behind it", works.foresee(1, 4), 399);
            edges.due("right behind it", works.right(0), -1);
            edges.due("60 days ahead behind right", works.foresee(60, 6), 300);
            edges.due("now", works.count(4), 400);
        });
        edges.test("Throws `IllegalArgumentException` if days is not 1 to 60", () -> {
            for (int what : new int[] {2, 4, 5, 6, 7}) {
                edges.range(Setup::full, "foresee(.., " + what + ")", 1, 60, Model.ARGUMENT,
                    (works, days) -> works.foresee(days, what));
            }
        });
        edges.test("Throws `IndexOutOfBoundsException` if what is none of these", () -> {
            for (int days : new int[] {1, 60}) {
                edges.range(Setup::full, "foresee(" + days + ", ..)", 4, 7, Model.INDEX,
                    (works, what) -> works.foresee(days, what));
                for (int what : new int[] {-1, 0, 1, 9, 10}) {
                    edges.changesNothing(Setup::full, "foresee(" + days + ", " + what + ")",
                        works -> works.foresee(days, what), Model.INDEX);
                }
            }
        });
    }

    /** Four clamps that burn for 4, 1 and 2 days more, as far as their shale goes, and the last for 2 by its coal. */
    private static AlumWorks clampsThatEnd() {
        AlumWorks works = new AlumWorks();
        works.bring(0, 200);
        int[] shales = {33, 9, 17, 200};
        for (int clamp = 0; clamp <= 3; clamp++) {
            works.pile(shales[clamp]);
            works.light(clamp, clamp == 3 ? 5 : 60);
        }
        works.pass(1);
        return works;
    }

    /** 400 fine crystals, and a ship that takes one each day. */
    private static AlumWorks shipEachDay() {
        AlumWorks works = Setup.mostFine();
        Setup.shipsAlways(works, 1);
        return works;
    }

    private void barrels() {
        edges.in("Promise 20: barrels");
        edges.noEdge("- `pan`: a pan");
        edges.test("Returns with how many barrels, 1 to 20, a pour into it now gives the most crystals, of several the least "
            + "number (however many there are; nothing is changed); -1 if it has no alum.", () -> {
                barrelsFor(150, 0, -1);
                barrelsFor(150, 1, 1);
                barrelsFor(150, 2, 1);
                barrelsFor(150, 3, 2);
                barrelsFor(81, 20, 10); // strength 19, 2 each
                barrelsFor(80, 20, 4); // 20, 5 each
                barrelsFor(80, 21, 5);
                barrelsFor(66, 34, 7); // 34
                barrelsFor(65, 35, 12); // 35, 3 each
                barrelsFor(50, 57, 19);
                barrelsFor(50, 58, 20);
                barrelsFor(50, 60, 20);
                barrelsFor(50, 61, 20);
                barrelsFor(50, 100, 20);
                barrelsFor(150, 37, 19); // strength 19
                barrelsFor(150, 80, 16); // 34
                AlumWorks asked = Setup.pans(3);
                edges.due("before a pour", asked.barrels(1), 3);
                asked.pour(1, 1);
                edges.due("behind a pour", asked.barrels(1), -1);
            });
        edges.test("Throws `IndexOutOfBoundsException` if there is no such pan", () ->
            edges.numbers(Setup::pans, 3, "barrels", AlumWorks::barrels));
    }

    private void barrelsFor(int water, int alum, int want) {
        for (int stored : new int[] {0, 1, 99}) {
            edges.changesNothing(() -> {
                AlumWorks works = Setup.panOf(water, alum);
                if (stored > 0) {
                    works.bring(1, stored);
                }
                return works;
            }, "barrels(0) for " + water + " water and " + alum + " alum, " + stored + " in the stores",
                works -> works.barrels(0), want);
        }
    }

    private void dry() {
        edges.in("Promise 21: dry");
        edges.noEdge("- `pit`: a pit");
        edges.test("Returns how much water would have to go, so that the egg swims or floats high in it: the least, 0 to its "
            + "water; -1 if it has no alum.", () -> {
                dryOf(400, 0, -1);
                dryOf(400, 1, 396);
                dryOf(5, 1, 1);
                dryOf(4, 1, 0);
                dryOf(1, 1, 0);
                dryOf(81, 20, 1); // strength 19
                dryOf(80, 20, 0); // 20
                dryOf(65, 35, 0); // 35
                dryOf(400, 100, 0);
                dryOf(400, 99, 4);
                dryOf(1, 100, 0);
                edges.changesNothing(() -> dried(1), "dry(0) of alum alone", works -> works.dry(0), 0);
                edges.changesNothing(() -> dried(0), "dry(0) of neither", works -> works.dry(0), -1);
                edges.changesNothing(Setup::full, "dry(2)", works -> works.dry(2), -1);
            });
        edges.test("Throws `IndexOutOfBoundsException` if there is no such pit", () ->
            edges.numbers(Setup::pits, 4, "dry", AlumWorks::dry));
    }

    private void dryOf(int water, int alum, int want) {
        edges.changesNothing(() -> Setup.pitOf(water, alum), "dry(0) of " + water + " water and " + alum + " alum",
            works -> works.dry(0), want);
    }

    private static AlumWorks dried(int alum) {
        AlumWorks works = Setup.pitOf(3, alum);
        works.pass(1);
        return works;
    }
}
