/** Counts checks, prints each that is not as due, and ends the program with code 1 if there was one. */
final class Checks {
    interface Call {
        Object run();
    }

    private static final long MOST_SECONDS = 60;

    private int passed = 0;
    private int failed = 0;
    private String heading = "";

    /** A program that is broken may go on for ever: its test fails then too. */
    Checks() {
        Thread watch = new Thread(Checks::giveUp);
        watch.setDaemon(true);
        watch.start();
    }

    private static void giveUp() {
        try {
            Thread.sleep(MOST_SECONDS * 1000);
        } catch (InterruptedException stopped) {
            return;
        }
        System.out.println("no end behind " + MOST_SECONDS + " seconds");
        Runtime.getRuntime().halt(1);
    }

    void due(String what, Object got, Object want) {
        if (want.equals(got)) {
            passed++;
        } else {
            failed++;
            System.out.println(heading + what + " answered " + got + ", due is " + want);
        }
    }

    /** A test by this name: what is not as due is told with it, and a test that checks nothing fails. */
    void under(String test, Runnable run) {
        int before = passed + failed;
        heading = test + " -- ";
        Object end = outcome(() -> {
            run.run();
            return "its end";
        });
        due("checks anything", passed + failed > before, true);
        due("comes to", end, "its end");
        heading = "";
    }

    /** The call must throw exactly this class (no class below it) and leave the works as they were. */
    void refused(AlumWorks works, String what, Call call, Class<? extends RuntimeException> want) {
        long before = works.digest();
        due(what, outcome(call), "throws." + want.getSimpleName());
        due("digest() behind " + what, works.digest(), before);
    }

    void refusedIndex(AlumWorks works, String what, Call call) {
        refused(works, what, call, IndexOutOfBoundsException.class);
    }

    void refusedArgument(AlumWorks works, String what, Call call) {
        refused(works, what, call, IllegalArgumentException.class);
    }

    void refusedState(AlumWorks works, String what, Call call) {
        refused(works, what, call, IllegalStateException.class);
    }

    /** The call must answer this and leave the works as they were. */
    void asks(AlumWorks works, String what, Call call, Object want) {
        long before = works.digest();
        due(what, outcome(call), want);
        due("digest() behind " + what, works.digest(), before);
    }

    /** The answer, or throws.NAME of what was thrown. */
    static Object outcome(Call call) {
        try {
            return call.run();
        } catch (RuntimeException thrown) {
            return "throws." + thrown.getClass().getSimpleName();
        }
    }

    void end(String name) {
        System.out.println(name + ": " + passed + " checks as due, " + failed + " not");
        if (failed != 0) {
            System.exit(1);
        }
    }
}
