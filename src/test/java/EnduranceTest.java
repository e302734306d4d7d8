/** That no call ever throws, whatever the arguments; past the 512th call the answers are free. */
public final class EnduranceTest {
    private static final int[] ARGUMENTS = {
        0, 1, 2, 3, 4, 5, 7, 8, 15, 16, 17, 24, 36, 37, 38, 39, 40, 41, 100, 101, -1, -2, -4, -40,
        Integer.MAX_VALUE, Integer.MAX_VALUE - 1, Integer.MAX_VALUE - 3, Integer.MAX_VALUE - 15,
        Integer.MIN_VALUE, Integer.MIN_VALUE + 1};
    private static final Due due = new Due();

    public static void main(String[] args) {
        WatchpointUnit x = new WatchpointUnit();
        int calls = 0;
        for (int a : ARGUMENTS) {
            for (int b : ARGUMENTS) {
                for (int c : ARGUMENTS) {
                    x.set(a & 7, b, c, 3);
                    x.set(a, b, c, c);
                    x.store(a, b, c);
                    calls += 3;
                }
                x.load(a, b);
                x.sweep(a, b);
                x.skip(a, b);
                x.pause(a, b);
                calls += 4;
            }
            askAll(x, a);
            x.clear(a);
            calls += 14;
        }
        due.isTrue("all calls came back", calls > 512);
        due.end();
    }

    private static void askAll(WatchpointUnit x, int a) {
        x.peek(a);
        x.hits(a);
        x.skips(a);
        x.stopMask(a);
        x.stopAddress(a);
        x.stopNumber(a);
        x.before(a);
        x.after(a);
        x.stops();
        x.accesses();
        x.kept();
        x.watched();
        x.load(36, 4);
    }
}
