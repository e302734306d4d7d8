/** Counts the answers that are not the due ones, for one test class. */
final class Due {
    private static final long LONGEST_TEST_MILLIS = 300_000;

    /** A call on an object, to be made in several states. */
    interface Call {
        int on(WatchpointUnit x);
    }

    private int asked = 0;
    private int wrong = 0;

    Due() {
        Thread guard = new Thread(Due::endHangingTest);
        guard.setDaemon(true);
        guard.start();
    }

    /** A call that never ends must fail the test, not hold up .ci/run. */
    private static void endHangingTest() {
        try {
            Thread.sleep(LONGEST_TEST_MILLIS);
        } catch (InterruptedException e) {
            return;
        }
        System.out.println("a call does not end");
        Runtime.getRuntime().halt(1);
    }

    void is(String call, long got, long want) {
        asked++;
        if (got != want) {
            wrong++;
            System.out.println(call + " answered " + got + ", due is " + want);
        }
    }

    void isTrue(String what, boolean holds) {
        asked++;
        if (!holds) {
            wrong++;
            System.out.println("not so: " + what);
        }
    }

    /** A refused call or a question: its answer is due, and it leaves everything as it was. */
    void changesNothing(String name, States state, Call call, int want) {
        WatchpointUnit x = state.make();
        is(state + ": " + name, call.on(x), want);
        same(state + ": " + name, x, state.make());
    }

    void changesNothing(String name, Call call, int want) {
        for (States state : States.values()) {
            changesNothing(name, state, call, want);
        }
    }

    /** That both objects are in the same state; uses them up. */
    void same(String after, WatchpointUnit x, WatchpointUnit y) {
        asked++;
        String difference = Inspection.difference(Inspection.of(x), Inspection.of(y));
        if (!difference.isEmpty()) {
            wrong++;
            System.out.println("after " + after + ": " + difference);
        }
    }

    int wrong() {
        return wrong;
    }

    void end() {
        System.out.println(asked + " answers, " + wrong + " not as due");
        if (wrong != 0 || asked == 0) {
            System.exit(1);
        }
    }
}
