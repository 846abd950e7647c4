import java.math.BigInteger;
import java.util.ArrayList;
import java.util.Collections;
import java.util.List;

/** The edges of promises 13 to 16, 22 and 23: clamp, pit, about, count, mean, digest. */
final class TellEdges {
    private final Edges edges;

    TellEdges(Edges edges) {
        this.edges = edges;
    }

    void all() {
        clamp();
        pit();
        about();
        count();
        mean();
        digest();
    }

    private void clamp() {
        edges.in("Promise 13: clamp");
        edges.noEdge("- `clamp`: a clamp");
        edges.test("- `what`: 0 its shale, 1 its coal, 2 what is burnt, 3 1 if it burns, else 0", () -> {
            int[][] want = {{0, 10, 0, 0}, {24, 8, 16, 1}, {0, 12, 190, 0}, {0, 42, 0, 0}};
            for (int clamp = 0; clamp <= 3; clamp++) {
                for (int what = 0; what <= 3; what++) {
                    int one = clamp;
                    int asked = what;
                    edges.changesNothing(Setup::full, "clamp(" + clamp + ", " + what + ")",
                        works -> works.clamp(one, asked), want[clamp][what]);
                }
            }
        });
        edges.noEdge("Returns this.");
        edges.test("Throws `IndexOutOfBoundsException` if there is no such clamp, or what is not 0 to 3", () -> {
            edges.numbers(Setup::clamps, 4, "clamp(.., 0)", (works, clamp) -> works.clamp(clamp, 0));
            edges.range(Setup::full, "clamp(0, ..)", 0, 3, Model.INDEX, (works, what) -> works.clamp(0, what));
            edges.range(Setup::full, "clamp(3, ..)", 0, 3, Model.INDEX, (works, what) -> works.clamp(3, what));
            edges.changesNothing(Setup::full, "clamp(4, 4)", works -> works.clamp(4, 4), Model.INDEX);
        });
    }

    private void pit() {
        edges.in("Promise 14: pit");
        edges.noEdge("- `pit`: a pit");
        edges.test("- `what`: 0 its water, 1 its alum, 2 its strength, 3 what the egg does in it", () -> {
            int[][] want = {{97, 34, 25, 1}, {17, 12, 41, 2}, {247, 0, 0, 0}, {0, 0, 0, 0}};
            for (int pit = 0; pit <= 3; pit++) {
                for (int what = 0; what <= 3; what++) {
                    int one = pit;
                    int asked = what;
                    edges.changesNothing(Setup::full, "pit(" + pit + ", " + what + ")", works -> works.pit(one, asked),
                        want[pit][what]);
                }
            }
        });
        edges.noEdge("Returns this.");
        edges.test("Throws `IndexOutOfBoundsException` if there is no such pit, or what is not 0 to 3", () -> {
            edges.numbers(Setup::pits, 4, "pit(.., 0)", (works, pit) -> works.pit(pit, 0));
            edges.range(Setup::full, "pit(0, ..)", 0, 3, Model.INDEX, (works, what) -> works.pit(0, what));
            edges.range(Setup::full, "pit(3, ..)", 0, 3, Model.INDEX, (works, what) -> works.pit(3, what));
            edges.changesNothing(Setup::full, "pit(4, 4)", works -> works.pit(4, 4), Model.INDEX);
        });
    }

    private void about() {
        edges.in("Promise 15: about");
        edges.noEdge("- `pan`: a pan");
        edges.test("- `what`: 0 its water, 1 its alum, 2 its strength, 3 what the egg does in it, 4 1 if it boils, else 0",
            () -> {
                int[][] want = {{100, 33, 24, 1, 0}, {8, 12, 60, 2, 1}, {150, 0, 0, 0, 0}};
                for (int pan = 0; pan <= 2; pan++) {
                    for (int what = 0; what <= 4; what++) {
                        int one = pan;
                        int asked = what;
                        edges.changesNothing(Setup::full, "about(" + pan + ", " + what + ")",
                            works -> works.about(one, asked), want[pan][what]);
                    }
                }
            });
        edges.noEdge("Returns this.");
        edges.test("Throws `IndexOutOfBoundsException` if there is no such pan, or what is not 0 to 4", () -> {
            edges.numbers(Setup::pans, 3, "about(.., 0)", (works, pan) -> works.about(pan, 0));
            edges.range(Setup::full, "about(0, ..)", 0, 4, Model.INDEX, (works, what) -> works.about(0, what));
            edges.range(Setup::full, "about(2, ..)", 0, 4, Model.INDEX, (works, what) -> works.about(2, what));
            edges.changesNothing(Setup::full, "about(3, 5)", works -> works.about(3, 5), Model.INDEX);
        });
    }

    private void count() {
        edges.in("Promise 16: count");
        edges.test("- `what`: 0 the day, 1 its rain, 2 coal, 3 barrels, 4 fine crystals, 5 coarse ones, 6 coins, 7 clamps "
            + "that burn, 8 alum of all pits and pans, 9 crystals that ships took in all", () -> {
                int[] want = {26, 9, 44, 13, 13, 6, 35, 1, 91, 7};
                for (int what = 0; what <= 9; what++) {
                    int asked = what;
                    edges.changesNothing(Setup::full, "count(" + what + ")", works -> works.count(asked), want[what]);
                    edges.changesNothing(AlumWorks::new, "count(" + what + ") of new works", works -> works.count(asked), 0);
                }
                AlumWorks shipped = Setup.full();
                shipped.pass(60);
                edges.due("crystals that all ships took", shipped.count(9), 7 + 13 + 6);
                AlumWorks works = Setup.clamps(4);
                for (int clamp = 0; clamp <= 3; clamp++) {
                    edges.due("clamps that burn", works.count(7), clamp);
                    works.light(clamp, 9);
                }
                edges.due("all clamps that burn", works.count(7), 4);
            });
        edges.noEdge("Returns this.");
        edges.test("Throws `IndexOutOfBoundsException` if what is not 0 to 9", () -> {
            edges.range(Setup::full, "count", 0, 9, Model.INDEX, AlumWorks::count);
            edges.range(AlumWorks::new, "count of new works", 0, 9, Model.INDEX, AlumWorks::count);
        });
    }

    private void mean() {
        edges.in("Promise 22: mean");
        edges.test("Returns the mean strength of all pits and pans that have water or alum; 0 without any.", () -> {
            edges.changesNothing(AlumWorks::new, "mean() of new works", AlumWorks::mean, 0.0);
            edges.changesNothing(TellEdges::nothingInThem, "mean() of what is empty", AlumWorks::mean, 0.0);
            edges.changesNothing(() -> Setup.pitOf(1, 0), "mean() of 1 water", AlumWorks::mean, 0.0);
            edges.changesNothing(() -> Setup.boiledOut(12, 1), "mean() of 1 alum in a pan", AlumWorks::mean, 100.0);
            edges.changesNothing(TellEdges::alumAlone, "mean() of 1 alum in a pit", AlumWorks::mean, 100.0);
            // The dry pit and its 0 do not count; the full pan's 0 does.
            edges.changesNothing(Setup::full, "mean() of all", AlumWorks::mean, (25 + 41 + 0 + 24 + 60 + 0) / 6.0);
            AlumWorks works = Setup.full();
            works.pour(0, 1);
            edges.due("mean() without what was poured out", works.mean(), (25 + 41 + 0 + 60 + 0) / 5.0);
        });
    }

    private static AlumWorks nothingInThem() {
        AlumWorks works = new AlumWorks();
        works.dig(0);
        works.dig(3);
        works.pan();
        works.pass(1);
        return works;
    }

    private static AlumWorks alumAlone() {
        AlumWorks works = Setup.pitOf(3, 1);
        works.pan();
        works.pass(1);
        return works;
    }

    private void digest() {
        edges.in("Promise 23: digest");
        edges.noEdge("Computes a checksum.");
        edges.test("A number d starts with 1231; for each of the following numbers x, d becomes d * 31 + x, which wraps "
            + "around as a 64-bit integer:", () -> {
                edges.changesNothing(AlumWorks::new, "digest() of new works", AlumWorks::digest,
                    wrapped(Collections.nCopies(23, 0)));
                AlumWorks works = Setup.full();
                List<Integer> told = numbersOf(works, new int[] {0, 0, 9, 0, 0, 0}, new int[] {0, 0, 0, 0, 7, 0, 5});
                edges.changesNothing(Setup::full, "digest() of full works", AlumWorks::digest, wrapped(told));
            });
        edges.test("what count() tells, in its order; the rain of each day, how many crystals each ship takes; for each clamp "
            + "what clamp() tells, for each pit what pit() tells, for each pan what about() tells, all in their order.",
            () -> {
                digestAsTold(0, 0, 0);
                for (int many = 1; many <= 4; many++) {
                    digestAsTold(many, 0, 0);
                    digestAsTold(0, many, 0);
                    digestAsTold(0, 1, Math.min(3, many));
                    digestAsTold(many, many, Math.min(3, many));
                }
            });
        edges.noEdge("Returns d.");
    }

    /** The digest with tables full of numbers, and so many of each kind. */
    private void digestAsTold(int clamps, int pits, int pans) {
        AlumWorks works = new AlumWorks();
        int[] rains = {1, 2, 3, 4, 5, 6};
        int[] ships = {7, 8, 9, 10, 11, 12, 13};
        for (int day = 0; day < rains.length; day++) {
            works.setRain(day, rains[day]);
        }
        for (int day = 0; day < ships.length; day++) {
            works.setShip(day, ships[day]);
        }
        for (int clamp = 0; clamp < clamps; clamp++) {
            works.pile(10 + clamp);
        }
        for (int pit = 0; pit < pits; pit++) {
            works.dig(50 + pit);
        }
        for (int pan = 0; pan < pans; pan++) {
            works.pan();
            works.draw(0, pan, 5 + pan);
            works.boil(pan);
        }
        String name = "digest() of " + clamps + " clamps, " + pits + " pits, " + pans + " pans";
        edges.due(name, works.digest(), wrapped(numbersOf(works, rains, ships)));
    }

    private static List<Integer> numbersOf(AlumWorks works, int[] rains, int[] ships) {
        List<Integer> numbers = new ArrayList<>();
        for (int what = 0; what <= 9; what++) {
            numbers.add(works.count(what));
        }
        for (int rain : rains) {
            numbers.add(rain);
        }
        for (int takes : ships) {
            numbers.add(takes);
        }
        for (int clamp = 0; Portrait.hasClamp(works, clamp); clamp++) {
            for (int what = 0; what <= 3; what++) {
                numbers.add(works.clamp(clamp, what));
            }
        }
        for (int pit = 0; Portrait.hasPit(works, pit); pit++) {
            for (int what = 0; what <= 3; what++) {
                numbers.add(works.pit(pit, what));
            }
        }
        for (int pan = 0; Portrait.hasPan(works, pan); pan++) {
            for (int what = 0; what <= 4; what++) {
                numbers.add(works.about(pan, what));
            }
        }
        return numbers;
    }

    /** Reckoned without an end to the number, and only then cut to its last 64 bits. */
    private static long wrapped(List<Integer> numbers) {
        BigInteger d = BigInteger.valueOf(1231);
        for (int x : numbers) {
            d = d.multiply(BigInteger.valueOf(31)).add(BigInteger.valueOf(x));
        }
        return d.longValue();
    }
}
