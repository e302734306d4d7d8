/**
 * That every call comes back, whatever the arguments and the state: one that throws ends the test,
 * one that does not end is ended by Due. Past an object's 512th call only that is looked at.
 */
public final class EnduranceTest {
    private static final int[] ARGUMENTS = {
        0, 1, 2, 3, 4, 5, 7, 8, 15, 16, 17, 24, 36, 37, 38, 39, 40, 41, 100, 101, -1, -2, -4, -40,
        Integer.MAX_VALUE, Integer.MAX_VALUE - 1, Integer.MAX_VALUE - 3, Integer.MAX_VALUE - 15,
        Integer.MIN_VALUE, Integer.MIN_VALUE + 1, Integer.MIN_VALUE + 39};
    private static final Due due = new Due();

    public static void main(String[] args) {
        for (States state : States.values()) {
            eachCallOnAnObjectOfItsOwn(state);
            allCallsOnOneObject(state);
        }
        due.end();
    }

    private static void eachCallOnAnObjectOfItsOwn(States state) {
        for (int a : ARGUMENTS) {
            for (int b : ARGUMENTS) {
                for (int c : ARGUMENTS) {
                    state.make().store(a, b, c);
                    state.make().set(a, b, c, a);
                    state.make().set(a & 7, b, c, 3);
                }
                state.make().pause(a, b);
                state.make().skip(a, b);
                state.make().load(a, b);
                state.make().sweep(a, b);
            }
            state.make().clear(a);
            askAll(state.make(), a);
        }
        due.isTrue(state + ": each call came back", true);
    }

    private static void allCallsOnOneObject(States state) {
        WatchpointUnit x = state.make();
        for (int a : ARGUMENTS) {
            for (int b : ARGUMENTS) {
                for (int c : ARGUMENTS) {
                    x.set(a & 7, b, c, 3);
                    x.set(a, b, c, c);
                    x.store(a, b, c);
                }
                x.load(a, b);
                x.sweep(a, b);
                x.skip(a, b);
                x.pause(a, b);
            }
            askAll(x, a);
            x.clear(a);
            x.load(36, 4);
        }
        due.isTrue(state + ": all calls came back", true);
    }

    private static void askAll(WatchpointUnit x, int a) {
        x.peek(a);
        x.hits(a);
        x.skips(a);
        x.stopMask(a);
        x.stopAddress(a);
        x.stopNumber(a);
        x.before(a);
        x.after(a);
        x.stops();
        x.accesses();
        x.kept();
        x.watched();
    }
}
