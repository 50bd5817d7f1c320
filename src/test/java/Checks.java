/** Counts the answers that are due and those that are not, and closes a test with a line and an exit code. */
final class Checks {
    interface Maker {
        Coilworm make();
    }

    interface Call {
        void on(Coilworm x);
    }

    private final String test;
    private int passed;
    private int failed;

    Checks(String test) {
        this.test = test;
    }

    void due(String call, long got, long want) {
        count(got == want, call + " answered " + got + ", due is " + want);
    }

    void due(String call, boolean got, boolean want) {
        count(got == want, call + " answered " + got + ", due is " + want);
    }

    void due(String call, String got, String want) {
        count(got.equals(want), call + " answered " + got + ", due is " + want);
    }

    /** The call throws just this exception, and the object then answers all as one on which it was not made. */
    void refused(String name, Maker scene, Class<? extends RuntimeException> want, Call call) {
        Coilworm x = scene.make();
        String thrown = "nothing";
        try {
            call.on(x);
        } catch (RuntimeException e) {
            thrown = e.getClass().getSimpleName();
        }
        due(name + " throws", thrown, want.getSimpleName());
        due("all answers behind " + name, Looks.at(x), Looks.at(scene.make()));
    }

    void range(String name, Maker scene, Call call) {
        refused(name, scene, IndexOutOfBoundsException.class, call);
    }

    void argument(String name, Maker scene, Call call) {
        refused(name, scene, IllegalArgumentException.class, call);
    }

    void state(String name, Maker scene, Call call) {
        refused(name, scene, IllegalStateException.class, call);
    }

    private void count(boolean holds, String complaint) {
        if (holds) {
            passed++;
        } else {
            failed++;
            System.out.println(test + ": " + complaint);
        }
    }

    void close() {
        System.out.println(test + ": " + passed + " passed, " + failed + " failed");
        if (failed != 0 || passed == 0) {
            System.exit(1);
        }
    }
}
