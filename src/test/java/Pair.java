import java.util.Map;
import java.util.TreeMap;

/**
 * A new object and a new model that get the same calls: each answer of the object is held against
 * the model's. Notes what situations the calls came upon, since a long run proves little if it
 * never gets into any.
 */
final class Pair {
    static final int MOST_CALLS = 512;
    /** The calls that compareState() makes. */
    static final int CALLS_TO_COMPARE = 116;

    private final WatchpointUnit x = new WatchpointUnit();
    final Model model = new Model();
    private final String name;
    private final Due due;
    private final Map<String, Integer> seen;
    private int calls = 0;

    Pair(String name, Due due, Map<String, Integer> seen) {
        this.name = name;
        this.due = due;
        this.seen = seen;
    }

    int calls() {
        return calls;
    }

    private void is(String call, int got, int want) {
        calls++;
        due.is(name + ", call " + calls + ": " + call, got, want);
        if (calls > MOST_CALLS) {
            throw new IllegalStateException("what later calls answer is free");
        }
        see("call " + MOST_CALLS, calls == MOST_CALLS);
    }

    private void see(String situation, boolean holds) {
        if (holds) {
            seen.merge(situation, 1, Integer::sum);
        }
    }

    private void seeRefusal(String method, int answer) {
        see(method + " answers " + answer, answer < 0);
    }

    void set(int watch, int first, int length, int kind) {
        Map<String, Boolean> before = stateOf(watch);
        int want = model.set(watch, first, length, kind);
        is("set(" + watch + ", " + first + ", " + length + ", " + kind + ")",
                x.set(watch, first, length, kind), want);
        seeRefusal("set", want);
        before.forEach((state, held) -> see("set anew " + state, held && want == 1));
    }

    void clear(int watch) {
        Map<String, Boolean> before = stateOf(watch);
        int want = model.clear(watch);
        is("clear(" + watch + ")", x.clear(watch), want);
        seeRefusal("clear", want);
        before.forEach((state, held) -> see("cleared " + state, held));
    }

    private Map<String, Boolean> stateOf(int watch) {
        Map<String, Boolean> state = new TreeMap<>();
        state.put("while paused", model.isPaused(watch));
        state.put("with skips left", model.skips(watch) > 0);
        state.put("with hits", model.hits(watch) > 0);
        return state;
    }

    void pause(int watch, int flag) {
        int want = model.pause(watch, flag);
        is("pause(" + watch + ", " + flag + ")", x.pause(watch, flag), want);
        seeRefusal("pause", want);
        boolean skips = model.skips(watch) > 0;
        see("paused with skips left", want == 0 && flag != 0 && skips);
        see("let go on with skips left", want == 1 && flag == 0 && skips);
        see("paused twice", want == 1 && flag != 0);
    }

    void skip(int watch, int skips) {
        int want = model.skip(watch, skips);
        is("skip(" + watch + ", " + skips + ")", x.skip(watch, skips), want);
        seeRefusal("skip", want);
        see("skips set while paused", want >= 0 && model.isPaused(watch));
        see("skips set with skips left", want > 0);
    }

    void load(int address, int size) {
        int accesses = model.accesses();
        int stops = model.stops();
        int skips = skipsLeft();
        int want = model.load(address, size);
        is("load(" + address + ", " + size + ")", x.load(address, size), want);
        see("load refused", model.accesses() == accesses);
        see("load of a negative number", want < 0);
        seeAccess(address, size, accesses, stops, skips);
    }

    void store(int address, int size, int value) {
        int accesses = model.accesses();
        int stops = model.stops();
        int skips = skipsLeft();
        int want = model.store(address, size, value);
        is("store(" + address + ", " + size + ", " + value + ")",
                x.store(address, size, value), want);
        seeRefusal("store", want);
        see("store stops at three watches or more", want >= 3);
        seeAccess(address, size, accesses, stops, skips);
    }

    private void seeAccess(int address, int size, int accesses, int stops, int skips) {
        boolean made = model.accesses() > accesses;
        boolean stopped = model.stops() > stops;
        boolean skipped = skipsLeft() < skips;
        int ranges = made ? model.rangesAt(address, size) : 0;
        see("access over three ranges or more", ranges >= 3);
        see("access over ranges without a hit", ranges > 0 && !stopped && !skipped);
        see("access that skips and stops", skipped && stopped);
        see("access that only skips", skipped && !stopped);
        see("stop that drops an older one", stopped && model.stops() > 8);
    }

    private int skipsLeft() {
        int sum = 0;
        for (int watch = 0; watch < 8; watch++) {
            sum += Math.max(0, model.skips(watch));
        }
        return sum;
    }

    void sweep(int first, int last) {
        int accesses = model.accesses();
        int want = model.sweep(first, last);
        is("sweep(" + first + ", " + last + ")", x.sweep(first, last), want);
        seeRefusal("sweep", want);
        see("sweep of some stops", want > 0 && want < model.accesses() - accesses);
        see("sweep of more than eight stops", want > 8);
    }

    void peek(int address) {
        int want = model.peek(address);
        is("peek(" + address + ")", x.peek(address), want);
        seeRefusal("peek", want);
    }

    void hits(int watch) {
        int want = model.hits(watch);
        is("hits(" + watch + ")", x.hits(watch), want);
        seeRefusal("hits", want);
    }

    void skips(int watch) {
        int want = model.skips(watch);
        is("skips(" + watch + ")", x.skips(watch), want);
        seeRefusal("skips", want);
        see("skips left", want > 0);
    }

    void stops() {
        is("stops()", x.stops(), model.stops());
    }

    void accesses() {
        is("accesses()", x.accesses(), model.accesses());
    }

    void kept() {
        is("kept()", x.kept(), model.kept());
    }

    void stopMask(int stop) {
        int want = model.stopMask(stop);
        is("stopMask(" + stop + ")", x.stopMask(stop), want);
        seeRefusal("stopMask", want);
        see("kept stop at three watches or more", want > 0 && Integer.bitCount(want) >= 3);
        see("kept stop at a watch that is not set", want > 0
                && model.hits(Integer.numberOfTrailingZeros(want)) < 0);
    }

    void stopAddress(int stop) {
        int want = model.stopAddress(stop);
        is("stopAddress(" + stop + ")", x.stopAddress(stop), want);
        seeRefusal("stopAddress", want);
    }

    void stopNumber(int stop) {
        int want = model.stopNumber(stop);
        is("stopNumber(" + stop + ")", x.stopNumber(stop), want);
        seeRefusal("stopNumber", want);
    }

    void before(int stop) {
        is("before(" + stop + ")", x.before(stop), model.before(stop));
        see("before of no stop", model.stopMask(stop) < 0);
    }

    void after(int stop) {
        is("after(" + stop + ")", x.after(stop), model.after(stop));
        see("after of no stop", model.stopMask(stop) < 0);
        see("after that is not before", model.after(stop) != model.before(stop));
    }

    void watched() {
        int want = model.watched();
        is("watched()", x.watched(), want);
        see("not every address watched, and some", want > 0 && want < 40);
    }

    /** Everything that can be asked. */
    void compareState() {
        stops();
        accesses();
        kept();
        watched();
        for (int watch = -1; watch <= 8; watch++) {
            hits(watch);
            skips(watch);
        }
        for (int stop = -1; stop <= 8; stop++) {
            stopMask(stop);
            stopAddress(stop);
            stopNumber(stop);
            before(stop);
            after(stop);
        }
        for (int address = -1; address <= 40; address++) {
            peek(address);
        }
    }
}
