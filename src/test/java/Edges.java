import java.util.ArrayList;
import java.util.List;
import java.util.Map;
import java.util.TreeMap;
import java.util.function.BiFunction;
import java.util.function.Function;
import java.util.function.IntFunction;
import java.util.function.Supplier;

/**
 * Tests that bear the document's words as their names, and what they have in common. Each call is tried on works
 * of its own: so a refused one can be told from works where it never was, and none comes near 512 calls.
 */
final class Edges {
    private static final int[] FAR = {Integer.MIN_VALUE, Integer.MAX_VALUE};

    private final Checks checks = new Checks();
    private final Map<String, List<String>> words = new TreeMap<>();
    private String section = "";

    /** The sentences that come now stand in this section of the document. */
    void in(String name) {
        section = name;
        words.putIfAbsent(name, new ArrayList<>());
    }

    /** The test of a sentence that names an edge. */
    void test(String sentence, Runnable test) {
        words.get(section).add(sentence);
        checks.under(section + ": " + sentence, test);
    }

    /** Sentences that name no edge. */
    void noEdge(String... sentences) {
        words.get(section).addAll(List.of(sentences));
    }

    Map<String, List<String>> words() {
        return words;
    }

    Checks checks() {
        return checks;
    }

    void due(String what, Object got, Object want) {
        checks.due(what, got, want);
    }

    /** The call answers or throws this, and behind it the works are as they would be without it. */
    void changesNothing(Supplier<AlumWorks> made, String call, Function<AlumWorks, Object> run, Object want) {
        AlumWorks works = made.get();
        due(call, Checks.outcome(() -> run.apply(works)), want);
        due("all behind " + call, Portrait.takenOf(works), Portrait.takenOf(made.get()));
    }

    /** The call is answered with the least number and the most, and throws this with any beyond. */
    void range(Supplier<AlumWorks> made, String call, int least, int most, String thrown,
            BiFunction<AlumWorks, Integer, Object> run) {
        answered(made, call, least, run);
        answered(made, call, most, run);
        for (int number : new int[] {least - 1, most + 1}) {
            changesNothing(made, call + " with " + number, works -> run.apply(works, number), thrown);
        }
        for (int number : FAR) {
            changesNothing(made, call + " with " + number, works -> run.apply(works, number), thrown);
        }
    }

    /** With so many of a kind, 0 to most, the call is answered with each of their numbers and no other. */
    void numbers(IntFunction<AlumWorks> made, int most, String call, BiFunction<AlumWorks, Integer, Object> run) {
        for (int many = 0; many <= most; many++) {
            int there = many;
            String name = call + " of " + many;
            for (int number = 0; number < many; number++) {
                answered(() -> made.apply(there), name, number, run);
            }
            for (int number : new int[] {-1, many, most, most + 1, FAR[0], FAR[1]}) {
                if (number < 0 || number >= many) {
                    changesNothing(() -> made.apply(there), name + " with " + number, works -> run.apply(works, number),
                        Model.INDEX);
                }
            }
        }
    }

    private void answered(Supplier<AlumWorks> made, String call, int number,
            BiFunction<AlumWorks, Integer, Object> run) {
        AlumWorks works = made.get();
        Object got = Checks.outcome(() -> run.apply(works, number));
        due(call + " with " + number + " (answered " + got + ") throws", got.toString().startsWith("throws."), false);
    }
}
