import java.util.ArrayList;
import java.util.List;

/**
 * All that can be learned of an object from outside, as lines of text. What no question tells (the
 * ranges, the kinds, which watches are paused) is found out by accesses, so an object is used up by
 * its inspection; two objects in the same state give the same lines. It takes 396 of the 512 calls
 * for which the document promises answers.
 */
final class Inspection {
    private final WatchpointUnit x;
    private final List<String> lines = new ArrayList<>();

    private Inspection(WatchpointUnit x) {
        this.x = x;
    }

    static List<String> of(WatchpointUnit x) {
        Inspection inspection = new Inspection(x);
        inspection.askCounts();
        inspection.askWatches();
        inspection.askStops();
        inspection.askMemory();
        inspection.wakeWatches();
        for (int address = 0; address < 40; address++) {
            inspection.tryAddress(address);
        }
        return inspection.lines;
    }

    /** The first line in which two inspections differ, or an empty text. */
    static String difference(List<String> got, List<String> want) {
        for (int i = 0; i < want.size(); i++) {
            if (!got.get(i).equals(want.get(i))) {
                return got.get(i) + ", due is " + want.get(i);
            }
        }
        return "";
    }

    private void add(String what, int answer) {
        lines.add(what + " = " + answer);
    }

    private void askCounts() {
        add("stops()", x.stops());
        add("accesses()", x.accesses());
        add("kept()", x.kept());
        add("watched()", x.watched());
    }

    private void askWatches() {
        for (int watch = 0; watch < 8; watch++) {
            add("hits(" + watch + ")", x.hits(watch));
            add("skips(" + watch + ")", x.skips(watch));
        }
    }

    private void askStops() {
        for (int stop = 0; stop < 8; stop++) {
            add("stopMask(" + stop + ")", x.stopMask(stop));
            add("stopAddress(" + stop + ")", x.stopAddress(stop));
            add("stopNumber(" + stop + ")", x.stopNumber(stop));
            add("before(" + stop + ")", x.before(stop));
            add("after(" + stop + ")", x.after(stop));
        }
    }

    private void askMemory() {
        for (int address = 0; address < 40; address++) {
            add("peek(" + address + ")", x.peek(address));
        }
    }

    /** A watch that is paused or skips would hide its range and its kind. */
    private void wakeWatches() {
        for (int watch = 0; watch < 8; watch++) {
            add("pause(" + watch + ", 0)", x.pause(watch, 0));
            add("skip(" + watch + ", 0)", x.skip(watch, 0));
        }
    }

    /** A read, a write of the same byte and a write of another one tell the four kinds apart. */
    private void tryAddress(int address) {
        int there = x.load(address, 1);
        add("load(" + address + ", 1)", there);
        add("its stopNumber(0)", x.stopNumber(0));
        add("its stopMask(0)", x.stopMask(0));
        add("store(" + address + ", 1) of the same", x.store(address, 1, there));
        add("its stopMask(0)", x.stopMask(0));
        add("store(" + address + ", 1) of another", x.store(address, 1, there + 1));
        add("its stopMask(0)", x.stopMask(0));
    }
}
