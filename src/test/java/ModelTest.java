/**
 * Long runs of calls, each answer held against the model's. The runs come from a fixed row of
 * numbers, so that every run of this test makes the same calls.
 */
public final class ModelTest {
    private static final int RUNS = 3000;
    // Each call is followed by one question and the last by 116 of them: 496 calls of the 512
    // for which the document promises answers.
    private static final int MOST_CALLS = 190;
    private static final int[] WRONG = {
        -1, -2, -16, 8, 9, 17, 38, 39, 40, 41, 100, 101, Integer.MIN_VALUE, Integer.MIN_VALUE + 1,
        Integer.MAX_VALUE, Integer.MAX_VALUE - 1, Integer.MAX_VALUE - 3, Integer.MAX_VALUE - 15};
    private static final Due due = new Due();
    private static long row;

    public static void main(String[] args) {
        for (int run = 1; run <= RUNS && due.wrong() == 0; run++) {
            row = run;
            makeRun(run);
        }
        due.end();
    }

    private static int next(int bound) {
        row = row * 6364136223846793005L + 1442695040888963407L;
        return (int) ((row >>> 33) % bound);
    }

    /** Mostly a number from least to most, and now and then one that may be wrong anywhere. */
    private static int some(int least, int most) {
        return next(12) == 0 ? WRONG[next(WRONG.length)] : least + next(most - least + 1);
    }

    private static int someSize() {
        return next(10) == 0 ? some(-1, 9) : 1 << next(3);
    }

    private static int someValue(Model m, int address) {
        switch (next(4)) {
            case 0: return next(3) - 1;
            case 1: return m.peek(address);
            default: return next(Integer.MAX_VALUE) * 2 + next(2);
        }
    }

    private static void makeRun(int run) {
        WatchpointUnit x = new WatchpointUnit();
        Model m = new Model();
        int calls = 1 + next(MOST_CALLS);
        for (int call = 1; call <= calls && due.wrong() == 0; call++) {
            String where = "run " + run + ", call " + call + ": ";
            makeCall(where, x, m);
            askOne(where, x, m);
        }
        compareState("run " + run + ", after " + calls + " calls: ", x, m);
    }

    private static void makeCall(String where, WatchpointUnit x, Model m) {
        int watch = some(0, 7);
        switch (next(14)) {
            case 0: case 1: {
                int first = some(0, 39);
                int length = some(1, 16);
                int kind = some(1, 4);
                due.is(where + "set(" + watch + ", " + first + ", " + length + ", " + kind + ")",
                        x.set(watch, first, length, kind), m.set(watch, first, length, kind));
                break;
            }
            case 2: {
                if (next(3) == 0) {
                    due.is(where + "clear(" + watch + ")", x.clear(watch), m.clear(watch));
                }
                break;
            }
            case 3: {
                int flag = some(-1, 1) * next(2);
                due.is(where + "pause(" + watch + ", " + flag + ")",
                        x.pause(watch, flag), m.pause(watch, flag));
                break;
            }
            case 4: {
                int skips = next(3) == 0 ? some(-1, 101) : some(0, 4);
                due.is(where + "skip(" + watch + ", " + skips + ")",
                        x.skip(watch, skips), m.skip(watch, skips));
                break;
            }
            case 5: case 6: case 7: {
                int address = some(0, 39);
                int size = someSize();
                due.is(where + "load(" + address + ", " + size + ")",
                        x.load(address, size), m.load(address, size));
                break;
            }
            case 8: {
                int first = some(0, 39);
                int last = some(0, 39);
                due.is(where + "sweep(" + first + ", " + last + ")",
                        x.sweep(first, last), m.sweep(first, last));
                break;
            }
            default: {
                int address = some(0, 39);
                int size = someSize();
                int value = someValue(m, address);
                due.is(where + "store(" + address + ", " + size + ", " + value + ")",
                        x.store(address, size, value), m.store(address, size, value));
                break;
            }
        }
    }

    private static void askOne(String where, WatchpointUnit x, Model m) {
        int watch = some(0, 7);
        int stop = some(0, 7);
        int address = some(0, 39);
        switch (next(12)) {
            case 0: due.is(where + "then stops()", x.stops(), m.stops()); break;
            case 1: due.is(where + "then accesses()", x.accesses(), m.accesses()); break;
            case 2: due.is(where + "then kept()", x.kept(), m.kept()); break;
            case 3: due.is(where + "then watched()", x.watched(), m.watched()); break;
            case 4: due.is(where + "then hits(" + watch + ")", x.hits(watch), m.hits(watch)); break;
            case 5: due.is(where + "then skips(" + watch + ")", x.skips(watch), m.skips(watch)); break;
            case 6: due.is(where + "then stopMask(" + stop + ")", x.stopMask(stop), m.stopMask(stop)); break;
            case 7: due.is(where + "then stopAddress(" + stop + ")", x.stopAddress(stop), m.stopAddress(stop)); break;
            case 8: due.is(where + "then stopNumber(" + stop + ")", x.stopNumber(stop), m.stopNumber(stop)); break;
            case 9: due.is(where + "then before(" + stop + ")", x.before(stop), m.before(stop)); break;
            case 10: due.is(where + "then after(" + stop + ")", x.after(stop), m.after(stop)); break;
            default: due.is(where + "then peek(" + address + ")", x.peek(address), m.peek(address)); break;
        }
    }

    private static void compareState(String where, WatchpointUnit x, Model m) {
        due.is(where + "stops()", x.stops(), m.stops());
        due.is(where + "accesses()", x.accesses(), m.accesses());
        due.is(where + "kept()", x.kept(), m.kept());
        due.is(where + "watched()", x.watched(), m.watched());
        for (int watch = -1; watch <= 8; watch++) {
            due.is(where + "hits(" + watch + ")", x.hits(watch), m.hits(watch));
            due.is(where + "skips(" + watch + ")", x.skips(watch), m.skips(watch));
        }
        for (int stop = -1; stop <= 8; stop++) {
            due.is(where + "stopMask(" + stop + ")", x.stopMask(stop), m.stopMask(stop));
            due.is(where + "stopAddress(" + stop + ")", x.stopAddress(stop), m.stopAddress(stop));
            due.is(where + "stopNumber(" + stop + ")", x.stopNumber(stop), m.stopNumber(stop));
            due.is(where + "before(" + stop + ")", x.before(stop), m.before(stop));
            due.is(where + "after(" + stop + ")", x.after(stop), m.after(stop));
        }
        for (int address = -1; address <= 40; address++) {
            due.is(where + "peek(" + address + ")", x.peek(address), m.peek(address));
        }
    }
}
