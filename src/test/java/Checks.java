/** Counts checks, prints each that is not as due, and ends the program with code 1 if there was one. */
final class Checks {
    interface Call {
        Object run();
    }

    private int passed = 0;
    private int failed = 0;

    void due(String what, Object got, Object want) {
        if (want.equals(got)) {
            passed++;
        } else {
            failed++;
            System.out.println(what + " answered " + got + ", due is " + want);
        }
    }

    /** The call must throw exactly this class (no class below it) and leave the works as they were. */
    void refused(AlumWorks works, String what, Call call, Class<? extends RuntimeException> want) {
        long before = works.digest();
        due(what, outcome(call), "throws." + want.getSimpleName());
        due("digest() behind " + what, works.digest(), before);
    }

    void refusedIndex(AlumWorks works, String what, Call call) {
        refused(works, what, call, IndexOutOfBoundsException.class);
    }

    void refusedArgument(AlumWorks works, String what, Call call) {
        refused(works, what, call, IllegalArgumentException.class);
    }

    void refusedState(AlumWorks works, String what, Call call) {
        refused(works, what, call, IllegalStateException.class);
    }

    /** The call must answer this and leave the works as they were. */
    void asks(AlumWorks works, String what, Call call, Object want) {
        long before = works.digest();
        due(what, outcome(call), want);
        due("digest() behind " + what, works.digest(), before);
    }

    /** The answer, or throws.NAME of what was thrown. */
    static Object outcome(Call call) {
        try {
            return call.run();
        } catch (RuntimeException thrown) {
            return "throws." + thrown.getClass().getSimpleName();
        }
    }

    void end(String name) {
        System.out.println(name + ": " + passed + " checks as due, " + failed + " not");
        if (failed != 0) {
            System.exit(1);
        }
    }
}
