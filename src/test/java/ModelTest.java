import java.util.ArrayList;
import java.util.List;
import java.util.Map;
import java.util.Random;
import java.util.TreeMap;

/** Long runs of calls, picked by fixed seeds: the program and the Model must answer each call alike. */
final class ModelTest {
    private static final int RUNS = 2000;
    // The works are asked for their digest too, and take at most 512 calls in all.
    private static final int CALLS = 511;
    private static final int CALLS_LOOKED_AT = 256;
    private static final int LEAST_ANSWERS = 100;
    private static final String[] NAMES = {
        "bring", "setRain", "setShip", "pile", "light", "dig", "steep", "pan", "draw", "boil", "pour", "clamp",
        "pit", "about", "count", "pass", "right", "foresee", "barrels", "dry", "mean", "digest",
    };
    private static final int[] WILD = {Integer.MIN_VALUE, -1_000_000, -1, 61, 151, 501, Integer.MAX_VALUE};

    private final Checks checks = new Checks();
    // How often each call gave each exception or an answer: what never comes is not tested.
    private final Map<String, Integer> seen = new TreeMap<>();

    public static void main(String[] args) {
        ModelTest test = new ModelTest();
        for (int seed = 0; seed < RUNS; seed++) {
            test.run(seed);
        }
        test.allSeen();
        test.checks.end("ModelTest");
    }

    private void run(int seed) {
        Random random = new Random(seed);
        AlumWorks works = new AlumWorks();
        Model model = new Model();
        List<String> told = new ArrayList<>();
        // Half of the runs look at all of the state behind every call, the others at the end only.
        boolean looks = seed % 2 == 0;
        int calls = looks ? CALLS_LOOKED_AT : CALLS;
        for (int number = 0; number < calls; number++) {
            String name = NAMES[random.nextInt(NAMES.length)];
            int[] numbers = numbers(name, random, seed % 4 == 0);
            String want = model.call(name, numbers[0], numbers[1], numbers[2]);
            Object got = Checks.outcome(() -> "" + real(works, name, numbers[0], numbers[1], numbers[2]));
            String call = name + "(" + numbers[0] + ", " + numbers[1] + ", " + numbers[2] + ")";
            told.add(call + " " + want);
            seen.merge(name + (want.startsWith("throws") ? " " + want : " answers"), 1, Integer::sum);
            checks.due("seed " + seed + ", call " + number + ": " + call, got, want);
            boolean same = want.equals(got);
            if (looks || number == calls - 1) {
                String state = model.call("digest", 0, 0, 0);
                String digest = "" + works.digest();
                checks.due("seed " + seed + ", digest() behind " + call, digest, state);
                same &= digest.equals(state);
            }
            if (!same) {
                System.out.println(told);
                return;
            }
        }
    }

    private static int[] numbers(String name, Random random, boolean wild) {
        int[] numbers = {picked(name, 0, random), picked(name, 1, random), picked(name, 2, random)};
        if (wild && random.nextInt(6) == 0) {
            numbers[random.nextInt(3)] = WILD[random.nextInt(WILD.length)];
        }
        return numbers;
    }

    private static int from(Random random, int least, int most) {
        return least + random.nextInt(most - least + 1);
    }

    /** A number for this place of the call: mostly one that is allowed, at times just outside. */
    private static int picked(String name, int place, Random random) {
        switch (name + place) {
            case "bring0": return from(random, -1, 12) > 4 ? from(random, 0, 1) : from(random, -1, 2);
            case "bring1": return from(random, 0, 3) == 0 ? from(random, -1, 502) : from(random, 1, 40);
            case "setRain0": return from(random, -1, 6);
            case "setRain1": return from(random, 0, 2) == 0 ? from(random, -1, 10) : from(random, 0, 1) * 2;
            case "setShip0": return from(random, -1, 7);
            case "setShip1": return from(random, 0, 9) == 0 ? from(random, -2, 62) : from(random, 0, 5);
            case "pile0": return from(random, -4, 204);
            case "light1": return from(random, -1, 62);
            case "dig0": return from(random, 0, 1) == 0 ? from(random, -20, 420) : from(random, 0, 60);
            case "draw2": return from(random, 0, 2) == 0 ? from(random, -2, 153) : from(random, 1, 30);
            case "pour1": return from(random, 0, 21);
            case "clamp1": return from(random, -1, 4);
            case "pit1": return from(random, -1, 4);
            case "about1": return from(random, -1, 5);
            case "count0": return from(random, -1, 10);
            case "pass0": return from(random, 0, 14) == 0 ? from(random, -1, 62) : from(random, 1, 4);
            case "foresee0": return from(random, -1, 62);
            case "foresee1": return from(random, -1, 10);
            default: return from(random, 0, 19) == 0 ? from(random, -1, 4) : from(random, 0, 3);
        }
    }

    private static Object real(AlumWorks works, String name, int a, int b, int c) {
        switch (name) {
            case "bring": return works.bring(a, b);
            case "setRain": return works.setRain(a, b);
            case "setShip": return works.setShip(a, b);
            case "pile": return works.pile(a);
            case "light": return works.light(a, b);
            case "dig": return works.dig(a);
            case "steep": return works.steep(a, b);
            case "pan": return works.pan();
            case "draw": return works.draw(a, b, c);
            case "boil": return works.boil(a);
            case "pour": return works.pour(a, b);
            case "clamp": return works.clamp(a, b);
            case "pit": return works.pit(a, b);
            case "about": return works.about(a, b);
            case "count": return works.count(a);
            case "pass": return works.pass(a);
            case "right": return works.right(a);
            case "foresee": return works.foresee(a, b);
            case "barrels": return works.barrels(a);
            case "dry": return works.dry(a);
            case "mean": return works.mean();
            case "digest": return works.digest();
            default: throw new IllegalStateException(name);
        }
    }

    private void allSeen() {
        System.out.println(seen);
        for (String name : NAMES) {
            checks.due("enough answers of " + name, seen.getOrDefault(name + " answers", 0) >= LEAST_ANSWERS, true);
        }
        for (Map.Entry<String, Integer> entry : seen.entrySet()) {
            checks.due("enough of " + entry.getKey(), entry.getValue() >= LEAST_ANSWERS, true);
        }
    }
}
