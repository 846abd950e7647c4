/** The edges of promises 1 to 4: a new object, bring, setRain, setShip. */
final class StoresEdges {
    private final Edges edges;

    StoresEdges(Edges edges) {
        this.edges = edges;
    }

    void all() {
        newObject();
        bring();
        setRain();
        setShip();
    }

    private void newObject() {
        edges.in("Promise 1: A new object");
        edges.test("Creates works without clamps, pits and pans, on the day 0.", () -> {
            edges.due("the day", new AlumWorks().count(0), 0);
            edges.changesNothing(AlumWorks::new, "clamp(0, 0)", works -> works.clamp(0, 0), Model.INDEX);
            edges.changesNothing(AlumWorks::new, "pit(0, 0)", works -> works.pit(0, 0), Model.INDEX);
            edges.changesNothing(AlumWorks::new, "about(0, 0)", works -> works.about(0, 0), Model.INDEX);
            edges.changesNothing(AlumWorks::new, "boil(0)", works -> works.boil(0), Model.INDEX);
            edges.due("the first clamp", new AlumWorks().pile(1), 0);
            edges.due("the first pit", new AlumWorks().dig(0), 0);
            edges.due("the first pan", new AlumWorks().pan(), 0);
            AlumWorks used = Setup.full();
            edges.due("a new one beside a used one", new AlumWorks().count(0), 0);
            edges.due("the used one beside a new one", used.count(0), 26);
        });
    }

    private void bring() {
        edges.in("Promise 2: bring");
        edges.test("- `what`: 0 coal, 1 barrels of urine", () -> {
            AlumWorks works = new AlumWorks();
            works.bring(0, 7);
            edges.due("coal of coal", works.count(2), 7);
            edges.due("barrels of coal", works.count(3), 0);
            works.bring(1, 8);
            edges.due("coal of barrels", works.count(2), 7);
            edges.due("barrels of barrels", works.count(3), 8);
        });
        edges.noEdge("- `many`: how much comes in");
        edges.test("Returns how much there is then: what is too much is left out.", () -> {
            brought(0, 499, 1, 500);
            brought(0, 499, 2, 500);
            brought(0, 500, 1, 500);
            brought(0, 1, 500, 500);
            brought(0, 1, 498, 499);
            brought(0, 500, 500, 500);
            brought(1, 98, 1, 99);
            brought(1, 98, 2, 99);
            brought(1, 99, 1, 99);
            brought(1, 1, 500, 99);
            brought(1, 1, 97, 98);
            brought(1, 500, 500, 99);
            edges.due("500 coal at once", new AlumWorks().bring(0, 500), 500);
            edges.due("99 barrels at once", new AlumWorks().bring(1, 99), 99);
            edges.due("100 barrels at once", new AlumWorks().bring(1, 100), 99);
        });
        edges.test("Throws `IndexOutOfBoundsException` if what is not 0 or 1", () ->
            edges.range(Setup::full, "bring(.., 1)", 0, 1, Model.INDEX, (works, what) -> works.bring(what, 1)));
        edges.test("Throws `IllegalArgumentException` if many is not 1 to 500", () -> {
            edges.range(Setup::full, "bring(0, ..)", 1, 500, Model.ARGUMENT, (works, many) -> works.bring(0, many));
            edges.range(Setup::full, "bring(1, ..)", 1, 500, Model.ARGUMENT, (works, many) -> works.bring(1, many));
        });
    }

    private void brought(int what, int first, int then, int want) {
        AlumWorks works = new AlumWorks();
        works.bring(what, first);
        String name = then + " to " + first + " of " + what;
        edges.due(name, works.bring(what, then), want);
        edges.due("count() behind " + name, works.count(2 + what), want);
    }

    private void setRain() {
        edges.in("Promise 3: setRain");
        edges.test("- `day`: a day of the weather, 0 to 5", () -> {
            for (int day = 0; day <= 5; day++) {
                AlumWorks works = new AlumWorks();
                works.setRain(day, 9);
                for (int gone = 0; gone < 13; gone++) {
                    edges.due("rain of day " + gone + " by " + day, works.count(1), gone % 6 == day ? 9 : 0);
                    works.pass(1);
                }
            }
        });
        edges.noEdge("- `rain`: its rain");
        edges.test("Returns the rain before.", () -> {
            for (int day = 0; day <= 5; day++) {
                AlumWorks works = new AlumWorks();
                edges.due("at first", works.setRain(day, 9), 0);
                edges.due("behind 9", works.setRain(day, 9), 9);
                edges.due("behind 9 again", works.setRain(day, 0), 9);
                edges.due("behind 0", works.setRain(day, 1), 0);
                edges.due("of another day", works.setRain((day + 1) % 6, 3), 0);
                edges.due("behind 1", works.setRain(day, 1), 1);
            }
        });
        edges.test("Throws `IndexOutOfBoundsException` if day is not 0 to 5", () ->
            edges.range(Setup::full, "setRain(.., 1)", 0, 5, Model.INDEX, (works, day) -> works.setRain(day, 1)));
        edges.test("Throws `IllegalArgumentException` if rain is not 0 to 9", () -> {
            edges.range(Setup::full, "setRain(0, ..)", 0, 9, Model.ARGUMENT, (works, rain) -> works.setRain(0, rain));
            edges.range(Setup::full, "setRain(5, ..)", 0, 9, Model.ARGUMENT, (works, rain) -> works.setRain(5, rain));
        });
    }

    private void setShip() {
        edges.in("Promise 4: setShip");
        edges.test("- `day`: a day of the ships, 0 to 6", () -> {
            for (int day = 0; day <= 6; day++) {
                AlumWorks works = Setup.mostFine();
                works.setShip(day, 1);
                for (int gone = works.count(0), end = gone + 15; gone < end; gone++) {
                    edges.due("coins of day " + gone + " by " + day, works.pass(1), gone % 7 == day ? 5 : 0);
                }
            }
        });
        edges.noEdge("- `takes`: how many crystals its ship takes");
        edges.test("Returns how many before.", () -> {
            for (int day = 0; day <= 6; day++) {
                AlumWorks works = new AlumWorks();
                edges.due("at first", works.setShip(day, 60), 0);
                edges.due("behind 60", works.setShip(day, 60), 60);
                edges.due("behind 60 again", works.setShip(day, 0), 60);
                edges.due("behind 0", works.setShip(day, 1), 0);
                edges.due("of another day", works.setShip((day + 1) % 7, 3), 0);
                edges.due("behind 1", works.setShip(day, 1), 1);
            }
        });
        edges.test("Throws `IndexOutOfBoundsException` if day is not 0 to 6", () ->
            edges.range(Setup::full, "setShip(.., 1)", 0, 6, Model.INDEX, (works, day) -> works.setShip(day, 1)));
        edges.test("Throws `IllegalArgumentException` if takes is not 0 to 60", () -> {
            edges.range(Setup::full, "setShip(0, ..)", 0, 60, Model.ARGUMENT, (works, takes) -> works.setShip(0, takes));
            edges.range(Setup::full, "setShip(6, ..)", 0, 60, Model.ARGUMENT, (works, takes) -> works.setShip(6, takes));
        });
    }
}
