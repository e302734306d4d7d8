import java.util.Map;
import java.util.TreeMap;

/**
 * Long runs of calls in which all methods mix, each answer held against the model's. The runs come
 * from a fixed row of numbers, so that every run of this test makes the same calls.
 */
public final class ModelTest {
    private static final int RUNS = 3200;
    private static final int OFTEN = 200;
    private static final int[] WRONG = {
        -1, -2, -16, 8, 9, 17, 38, 39, 40, 41, 100, 101, Integer.MIN_VALUE, Integer.MIN_VALUE + 1,
        Integer.MAX_VALUE, Integer.MAX_VALUE - 1, Integer.MAX_VALUE - 3, Integer.MAX_VALUE - 15};

    // What the runs must have come upon, each often, for this test to mean anything.
    private static final String[] SITUATIONS = {
        "set anew while paused", "set anew with skips left", "set anew with hits",
        "cleared while paused", "cleared with skips left", "cleared with hits",
        "paused with skips left", "let go on with skips left", "paused twice",
        "skips set while paused", "skips set with skips left", "skips left",
        "access over three ranges or more", "access over ranges without a hit",
        "access that skips and stops", "access that only skips", "load of a negative number",
        "store stops at three watches or more", "stop that drops an older one",
        "sweep of some stops", "sweep of more than eight stops",
        "kept stop at three watches or more", "kept stop at a watch that is not set",
        "after that is not before", "not every address watched, and some", "call 512",
        "set answers -1", "set answers -2", "set answers -3", "set answers -4",
        "clear answers -1", "clear answers -2", "pause answers -1", "pause answers -2",
        "skip answers -1", "skip answers -2", "skip answers -3", "load refused",
        "store answers -1", "store answers -2", "sweep answers -1", "peek answers -1",
        "hits answers -1", "hits answers -2", "skips answers -1", "skips answers -2",
        "stopMask answers -1", "stopAddress answers -1", "stopNumber answers -1",
        "before of no stop", "after of no stop"};

    /** What a run is rich in, as weights. */
    private enum Temper {
        EVEN(4, 1, 2, 2, 5, 8, 2, 20, 40),
        // Ranges and accesses crowd upon a few bytes.
        CROWDED(4, 1, 2, 2, 6, 10, 1, 14, 10),
        RESTLESS(10, 6, 8, 8, 3, 6, 1, 12, 20),
        // Watches stay as they are for long, so that hits and dropped stops grow many.
        STEADY(2, 0, 0, 1, 10, 16, 5, 16, 40);

        final int[] weights;
        final int reach;

        Temper(int set, int clear, int pause, int skip, int load, int store, int sweep,
                int question, int reach) {
            this.weights = new int[] {set, clear, pause, skip, load, store, sweep, question};
            this.reach = reach;
        }
    }

    private static final Due due = new Due();
    private static final Map<String, Integer> seen = new TreeMap<>();
    private static long row;

    public static void main(String[] args) {
        for (int run = 1; run <= RUNS && due.wrong() == 0; run++) {
            row = run;
            makeRun(run);
        }
        for (String situation : SITUATIONS) {
            due.isTrue("the runs often came upon: " + situation, seen.getOrDefault(situation, 0) >= OFTEN);
        }
        due.end();
    }

    private static int next(int bound) {
        row = row * 6364136223846793005L + 1442695040888963407L;
        return (int) ((row >>> 33) % bound);
    }

    /** Mostly a number from least to most, and now and then one that may be wrong anywhere. */
    private static int some(int least, int most) {
        return next(16) == 0 ? WRONG[next(WRONG.length)] : least + next(most - least + 1);
    }

    private static int someSize() {
        return next(12) == 0 ? some(-1, 9) : 1 << next(3);
    }

    /** Often what stands there already, or some of it, so that a write may change nothing. */
    private static int someValue(Model model, int address) {
        switch (next(5)) {
            case 0: return next(3) - 1;
            case 1: return model.peek(address);
            case 2: return model.peek(address) | model.peek(address + 1) << 8 | next(2) << 16;
            default: return next(Integer.MAX_VALUE) * 2 + next(2);
        }
    }

    private static void makeRun(int run) {
        Temper temper = Temper.values()[run % Temper.values().length];
        int base = next(40 - temper.reach + 1);
        Pair pair = new Pair(temper + " run " + run, due, seen);
        boolean toTheLastCall = next(3) == 0;
        int mixed = toTheLastCall ? Pair.MOST_CALLS : Pair.MOST_CALLS - Pair.CALLS_TO_COMPARE;
        if (next(4) == 0) {
            mixed = 1 + next(mixed);
        }
        while (pair.calls() < mixed && due.wrong() == 0) {
            makeCall(pair, temper, base);
        }
        if (!toTheLastCall && due.wrong() == 0) {
            pair.compareState();
        }
    }

    private static int drawn(int[] weights) {
        int sum = 0;
        for (int weight : weights) {
            sum += weight;
        }
        int left = next(sum);
        int which = 0;
        while (left >= weights[which]) {
            left -= weights[which];
            which++;
        }
        return which;
    }

    private static void makeCall(Pair pair, Temper temper, int base) {
        int watch = some(0, 7);
        int address = some(base, base + temper.reach - 1);
        switch (drawn(temper.weights)) {
            case 0: pair.set(watch, address, some(1, 16), some(1, 4)); break;
            case 1: pair.clear(watch); break;
            case 2: pair.pause(watch, next(2) * some(-1, 1)); break;
            case 3: pair.skip(watch, next(4) == 0 ? some(-1, 101) : some(0, 4)); break;
            case 4: pair.load(address, someSize()); break;
            case 5: pair.store(address, someSize(), someValue(pair.model, address)); break;
            case 6: pair.sweep(address, someLast(address)); break;
            default: ask(pair, watch, address, some(0, 8)); break;
        }
    }

    private static int someLast(int first) {
        return first < 0 || first > 39 || next(8) == 0 ? some(0, 39) : some(first, 39);
    }

    private static void ask(Pair pair, int watch, int address, int stop) {
        switch (next(12)) {
            case 0: pair.stops(); break;
            case 1: pair.accesses(); break;
            case 2: pair.kept(); break;
            case 3: pair.watched(); break;
            case 4: pair.hits(watch); break;
            case 5: pair.skips(watch); break;
            case 6: pair.stopMask(stop); break;
            case 7: pair.stopAddress(stop); break;
            case 8: pair.stopNumber(stop); break;
            case 9: pair.before(stop); break;
            case 10: pair.after(stop); break;
            default: pair.peek(address); break;
        }
    }
}
