/** Counts the answers that are due and those that are not, and closes a test with a line and an exit code. */
final class Checks {
    interface Call {
        void run();
    }

    private final String test;
    private int passed;
    private int failed;

    Checks(String test) {
        this.test = test;
    }

    void due(String call, long got, long want) {
        count(got == want, call + " answered " + got + ", due is " + want);
    }

    void due(String call, boolean got, boolean want) {
        count(got == want, call + " answered " + got + ", due is " + want);
    }

    void due(String call, String got, String want) {
        count(got.equals(want), call + " answered " + got + ", due is " + want);
    }

    /** The call throws just this exception, and all that can be asked of the object stays as it was. */
    void refused(String name, Coilworm x, Class<? extends RuntimeException> want, Call call) {
        String before = Looks.at(x);
        String thrown = "nothing";
        try {
            call.run();
        } catch (RuntimeException e) {
            thrown = e.getClass().getSimpleName();
        }
        due(name + " throws", thrown, want.getSimpleName());
        due("all answers behind " + name, Looks.at(x), before);
    }

    void range(String name, Coilworm x, Call call) {
        refused(name, x, IndexOutOfBoundsException.class, call);
    }

    void argument(String name, Coilworm x, Call call) {
        refused(name, x, IllegalArgumentException.class, call);
    }

    void state(String name, Coilworm x, Call call) {
        refused(name, x, IllegalStateException.class, call);
    }

    private void count(boolean holds, String complaint) {
        if (holds) {
            passed++;
        } else {
            failed++;
            System.out.println(test + ": " + complaint);
        }
    }

    void close() {
        System.out.println(test + ": " + passed + " passed, " + failed + " failed");
        if (failed != 0 || passed == 0) {
            System.exit(1);
        }
    }
}
