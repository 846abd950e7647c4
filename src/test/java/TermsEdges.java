/** The edges that the document's terms name: stores, tables, clamps, pits, pans, the egg, and exceptions. */
final class TermsEdges {
    private final Edges edges;

    TermsEdges(Edges edges) {
        this.edges = edges;
    }

    void all() {
        calls();
        edges.in("Terms");
        edges.noEdge("Shale is piled into clamps, and burnt for days; what is burnt is steeped in pits; the liquor gets "
            + "stronger in the sun, weaker by rain, and is boiled in pans; an egg tells how strong it is; urine is "
            + "poured in, and crystals come, more or fewer by the egg; ships take them, and pay by their quality; "
            + "and it is told how strong each liquor is, what the egg says, when a pan is right, how much a pour "
            + "would give, what the ships pay, and how the days will go on.");
        numbersAndDays();
        stores();
        tables();
        things();
        liquors();
        exceptions();
        edges.noEdge(
            "Ahead of the calls `bring`, `setRain`, `setShip` the interface says: ---- stores and tables.",
            "Ahead of the calls `pile`, `light`, `dig`, `steep`, `pan`, `draw`, `boil`, `pour` the interface says: "
                + "---- clamps, pits, pans.",
            "Ahead of the calls `clamp`, `pit`, `about`, `count` the interface says: ---- what is there.",
            "Ahead of the calls `pass`, `right`, `foresee`, `barrels`, `dry`, `mean`, `digest` the interface says: "
                + "---- days and what would be.");
    }

    private void calls() {
        edges.in("What it is");
        edges.noEdge("Alum works upon a cliff.");
        edges.test("An object is used for at most 512 calls after it has been made; what later calls answer is free.", () -> {
            AlumWorks works = Setup.pitOf(400, 100); // six calls
            Setup.rainAlways(works, 1); // six more
            for (int call = 13; call <= 509; call++) {
                edges.due("coins of call " + call, works.pass(60), 0);
            }
            edges.due("call 510", works.count(0), 30 + 60 * 497);
            edges.due("call 511", works.pit(0, 0), 400);
            edges.due("call 512", works.pit(0, 2), 20);
        });
    }

    private void numbersAndDays() {
        edges.test("All numbers are whole, and / is cut towards 0.", () -> {
            edges.due("strength 99/100", Setup.pitOf(100, 1).pit(0, 2), 0);
            edges.due("strength 100/100", Setup.pitOf(99, 1).pit(0, 2), 1);
            edges.due("strength 9999/100", Setup.pitOf(1, 99).pit(0, 2), 99);
            edges.due("a part of 99/100", drawn(100, 99, 1), 0);
            edges.due("a part of 100/100", drawn(100, 100, 1), 1);
            edges.due("a part of 199/100", drawn(100, 199 - 100, 2), 1);
        });
        edges.test("Time is told in days, from 0.", () -> {
            AlumWorks works = new AlumWorks();
            edges.due("the first day", works.count(0), 0);
            works.pass(1);
            edges.due("the second", works.count(0), 1);
        });
    }

    private static int drawn(int water, int alum, int part) {
        AlumWorks works = Setup.pitOf(water, alum);
        works.pan();
        return works.draw(0, 0, part);
    }

    private void stores() {
        edges.test("Stores. There are coal, 0 (at first) to 500, and barrels of urine, 0 (at first) to 99; crystals, fine "
            + "ones and coarse ones (0, at first), and coins (0, at first).", () -> {
                for (int what = 2; what <= 6; what++) {
                    edges.due("count(" + what + ") at first", new AlumWorks().count(what), 0);
                }
                coalFromNoneToMost();
                barrelsFromNoneToMost();
                crystalsAndCoinsHaveNoMost();
            });
    }

    private void coalFromNoneToMost() {
        AlumWorks works = new AlumWorks();
        works.bring(0, 499);
        edges.due("499 coal", works.count(2), 499);
        works.bring(0, 1);
        edges.due("500 coal", works.count(2), 500);
        works.bring(0, 1);
        edges.due("no more than 500", works.count(2), 500);
        AlumWorks less = new AlumWorks();
        less.bring(0, 60);
        less.pile(1);
        less.light(0, 60);
        edges.due("none left", less.count(2), 0);
    }

    private void barrelsFromNoneToMost() {
        AlumWorks works = Setup.panOf(100, 50);
        works.bring(1, 98);
        edges.due("98 barrels", works.count(3), 98);
        works.bring(1, 1);
        edges.due("99 barrels", works.count(3), 99);
        works.bring(1, 1);
        edges.due("no more than 99", works.count(3), 99);
        AlumWorks less = Setup.panOf(100, 50);
        less.bring(1, 20);
        less.pour(0, 20);
        edges.due("none left", less.count(3), 0);
    }

    private void crystalsAndCoinsHaveNoMost() {
        AlumWorks works = Setup.mostFine();
        edges.due("400 fine ones", works.count(4), 400);
        Setup.shipsAlways(works, 60);
        works.pass(7);
        edges.due("2000 coins", works.count(6), 2000);
        AlumWorks coarse = new AlumWorks();
        coarse.bring(0, 240);
        for (int clamp = 0; clamp < 4; clamp++) {
            coarse.pile(200);
            coarse.light(clamp, 60);
        }
        coarse.pass(25);
        for (int pan = 0; pan < 3; pan++) {
            coarse.pan();
        }
        for (int pit = 0; pit < 4; pit++) {
            coarse.dig(100);
            coarse.steep(pit, pit);
            coarse.bring(1, 99);
            coarse.draw(pit, 0, 100);
            coarse.pour(0, 20);
        }
        edges.due("240 coarse ones", coarse.count(5), 240);
    }

    private void tables() {
        edges.test("Weather. A table tells for each of 6 days (the day by the remainder of 6) the rain, 0 to 9 (0, at "
            + "first).", () -> {
                AlumWorks works = new AlumWorks();
                int[] rains = {9, 0, 1, 8, 5, 4};
                for (int day = 0; day < 6; day++) {
                    edges.due("rain at first of day " + day, works.setRain(day, rains[day]), 0);
                }
                for (int day = 0; day <= 60; day++) {
                    edges.due("rain of day " + day, works.count(1), rains[day % 6]);
                    works.pass(1);
                }
                edges.due("rain of the day 0", new AlumWorks().count(1), 0);
            });
        edges.test("Ships. A table tells for each of 7 days (the day by the remainder of 7) how many crystals a ship "
            + "takes, 0 to 60 (0, at first).", () -> {
                AlumWorks works = Setup.mostFine();
                int[] ships = {1, 0, 2, 60, 3, 5, 4}; // 75 in seven days
                edges.due("no ship at first", works.pass(10), 0);
                for (int day = 0; day < 7; day++) {
                    edges.due("ship at first of day " + day, works.setShip(day, ships[day]), 0);
                }
                int day = works.count(0);
                for (int end = day + 35; day < end; day++) {
                    edges.due("coins of day " + day, works.pass(1), 5 * ships[day % 7]);
                }
            });
    }

    private void things() {
        edges.test("Clamps. There are at most 4, numbered from 0 in the order of their piling; each has shale, 0 to 200, "
            + "coal, 0 (at first) to 60, burnt shale, 0 (at first) or more, and burns or not (not, at first).",
            this::clamps);
        edges.test("Pits. There are at most 4, numbered likewise; each has water, 0 to 400, and alum, 0 (at first) or more.",
            this::pits);
        edges.test("Pans. There are at most 3, numbered likewise; each has water and alum (0, at first), and boils or not "
            + "(not, at first).", this::pans);
    }

    private void clamps() {
        AlumWorks works = new AlumWorks();
        int[] shales = {200, 1, 199, 2};
        for (int clamp = 0; clamp < 4; clamp++) {
            edges.due("number " + clamp, works.pile(shales[clamp]), clamp);
            for (int what = 0; what <= 3; what++) {
                edges.due("at first of clamp " + clamp, works.clamp(clamp, what), what == 0 ? shales[clamp] : 0);
            }
        }
        edges.due("a fifth", Checks.outcome(() -> works.pile(1)), Model.STATE);
        works.bring(0, 200);
        works.light(0, 60);
        edges.due("60 coal", works.clamp(0, 1), 60);
        works.light(0, 1);
        edges.due("no more than 60", works.clamp(0, 1), 60);
        works.pass(24);
        edges.due("8 shale are left", works.clamp(0, 0), 8);
        edges.due("it burns", works.clamp(0, 3), 1);
        works.pass(1);
        edges.due("none is left", works.clamp(0, 0), 0);
        edges.due("all is burnt", works.clamp(0, 2), 200);
        edges.due("it does not burn", works.clamp(0, 3), 0);
        edges.due("a fifth, as one is burnt", Checks.outcome(() -> works.pile(1)), Model.STATE);
    }

    private void pits() {
        AlumWorks works = new AlumWorks();
        works.bring(0, 240);
        for (int clamp = 0; clamp < 4; clamp++) {
            works.pile(200);
            works.light(clamp, 60);
        }
        works.pass(25);
        int[] waters = {400, 0, 399, 1};
        for (int pit = 0; pit < 4; pit++) {
            edges.due("number " + pit, works.dig(waters[pit]), pit);
            edges.due("water at first of pit " + pit, works.pit(pit, 0), waters[pit]);
            edges.due("alum at first of pit " + pit, works.pit(pit, 1), 0);
        }
        edges.due("a fifth", Checks.outcome(() -> works.dig(1)), Model.STATE);
        for (int clamp = 0; clamp < 4; clamp++) {
            edges.due("alum of clamp " + clamp, works.steep(clamp, 0), 100 * (clamp + 1));
        }
        Setup.rainAlways(works, 1);
        works.pass(1);
        edges.due("no more than 400", works.pit(0, 0), 400);
        edges.due("400 water", works.pit(2, 0), 400);
        Setup.rainAlways(works, 0);
        works.pass(1);
        edges.due("no less than 0", works.pit(3, 0), 0);
        edges.due("a fifth, as two are dry", Checks.outcome(() -> works.dig(1)), Model.STATE);
    }

    private void pans() {
        AlumWorks works = Setup.pans(0);
        for (int pan = 0; pan < 3; pan++) {
            edges.due("number " + pan, works.pan(), pan);
            for (int what : new int[] {0, 1, 4}) {
                edges.due("at first of pan " + pan, works.about(pan, what), 0);
            }
        }
        edges.due("a fourth", Checks.outcome(works::pan), Model.STATE);
        works.draw(0, 2, 100);
        works.pour(2, 1);
        edges.due("a fourth, as one was poured out", Checks.outcome(works::pan), Model.STATE);
    }

    private void liquors() {
        edges.test("Strength of a pit or pan: 100 * alum / (water and alum, added); 0, if it has neither.", () -> {
            strength(200, 0, 0);
            strength(99, 100, 50);
            strength(100, 99, 49);
            strength(1, 100, 99);
            edges.due("strength of neither in a pit", dry(0).pit(0, 2), 0);
            edges.due("strength of alum alone in a pit", dry(1).pit(0, 2), 100);
            edges.due("strength of neither in a pan", Setup.boiledOut(12, 0).about(0, 2), 0);
            edges.due("strength of alum alone in a pan", Setup.boiledOut(12, 1).about(0, 2), 100);
        });
        edges.test("The egg sinks (0) with a strength of less than 20, swims (1) with 20 to 34, and floats high (2) with "
            + "35 or more.", () -> {
                egg(149, 0, 0, 0);
                egg(81, 20, 19, 0);
                egg(80, 20, 20, 1);
                egg(66, 34, 34, 1);
                egg(65, 35, 35, 2);
                edges.due("egg with 0 in a pit", dry(0).pit(0, 3), 0);
                edges.due("egg with 100 in a pit", dry(1).pit(0, 3), 2);
                edges.due("egg with 0 in a pan", Setup.boiledOut(12, 0).about(0, 3), 0);
                edges.due("egg with 100 in a pan", Setup.boiledOut(12, 1).about(0, 3), 2);
            });
    }

    /** A pit of so much alum without water. */
    private static AlumWorks dry(int alum) {
        AlumWorks works = Setup.pitOf(3, alum);
        works.pass(1);
        return works;
    }

    private void strength(int water, int alum, int want) {
        edges.due("strength of " + water + " and " + alum + " in a pit", Setup.pitOf(water, alum).pit(0, 2), want);
        if (water <= 150) {
            edges.due("strength of " + water + " and " + alum + " in a pan", Setup.panOf(water, alum).about(0, 2), want);
        }
    }

    private void egg(int water, int alum, int strength, int want) {
        strength(water, alum, strength);
        edges.due("egg with " + strength + " in a pit", Setup.pitOf(water, alum).pit(0, 3), want);
        edges.due("egg with " + strength + " in a pan", Setup.panOf(water, alum).about(0, 3), want);
    }

    private void exceptions() {
        edges.test("A method that throws an exception changes nothing.", () -> {
            for (Refusals.Refusal refusal : Refusals.all()) {
                edges.changesNothing(Setup::full, refusal.call(), refusal::run, refusal.thrown());
            }
        });
        edges.test("If several exceptions apply, the one that is named first is thrown.", () -> {
            for (Refusals.Refusal refusal : Refusals.several()) {
                edges.changesNothing(Setup::full, refusal.call(), refusal::run, refusal.thrown());
            }
            severalInEmptyWorks();
        });
    }

    private void severalInEmptyWorks() {
        edges.changesNothing(AlumWorks::new, "light(0, 0) of no clamp, without coal", works -> works.light(0, 0), Model.INDEX);
        edges.changesNothing(AlumWorks::new, "light(0, 61) of no clamp, without coal", works -> works.light(0, 61),
            Model.INDEX);
        edges.changesNothing(AlumWorks::new, "pour(0, 21) of no pan, without barrels", works -> works.pour(0, 21),
            Model.INDEX);
        edges.changesNothing(AlumWorks::new, "draw(0, 0, 0) of no pit and pan", works -> works.draw(0, 0, 0), Model.INDEX);
    }
}
