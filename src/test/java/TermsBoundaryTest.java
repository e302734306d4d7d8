/** The sentences of the document's Terms that name a boundary case, each with a test of its own. */
public final class TermsBoundaryTest {
    private static final int MIN = Integer.MIN_VALUE;
    private static final int MAX = Integer.MAX_VALUE;
    private static final int MOST_CALLS = 512;
    private static final Due due = new Due();

    public static void main(String[] args) {
        theStatesAreWhatTheySay();

        theMemoryHas40Bytes();
        everyByteIs0AtFirst();
        aByteHolds0To255();
        anAccessLiesAnywhereWithinTheMemory();
        theLeastAddressHasTheLowestBits();
        oneByteIsNotNegative();
        twoBytesAreNotNegative();
        fourBytesMakeAnInt();

        thereAreEightWatches();
        aRangeIsHitAtItsEdges();
        aRangeIsHitAtTheEndsOfTheMemory();
        aPausedWatchIsNotHit();
        aReadHitsReadAndAccess();
        aWriteOfTheSameHitsWriteAndAccess();
        aWriteOfAnotherByteHitsAllButRead();
        aChangeOfAnyBitHits();
        aChangeBesideTheRangeHitsNoChange();
        aChangeIsSeenAtEveryByteOfTheAccess();
        bitsThatAreNotWrittenAreNoChange();

        theAccessTakesPlaceFirst();
        aSkipIsSpentByAHitAlone();
        aHitEitherSkipsOrCounts();
        watchesSkipEachForThemselves();
        anAccessThatSkipsEverywhereIsNoStop();

        allCallsUpToThe512thAreAnswered();
        theCountsHoldForAllCalls();
        due.end();
    }

    private static void is(String call, long got, long want) {
        due.is(call, got, want);
    }

    /** The other tests lean on these states, so they must not be emptier than they seem. */
    private static void theStatesAreWhatTheySay() {
        int[] kept = {0, 3, 8};
        for (States state : States.values()) {
            is(state + ": kept()", state.make().kept(), kept[state.ordinal()]);
            for (int watch : state.watches(true)) {
                is(state + ": set", state.make().set(watch, 0, 1, 1), 1);
            }
            for (int watch : state.watches(false)) {
                is(state + ": not set", state.make().set(watch, 0, 1, 1), 0);
            }
        }
        due.isTrue("more than eight stops", States.BUSY.make().stops() > 8);
        is("BUSY: 5 is paused", States.BUSY.make().pause(5, 0), 1);
        is("BUSY: 2 skips", States.BUSY.make().skips(2), 100);
    }

    // The memory

    private static void theMemoryHas40Bytes() {
        WatchpointUnit x = new WatchpointUnit();
        for (int address = 0; address < 40; address++) {
            is("store(" + address + ")", x.store(address, 1, 255 - address), 0);
        }
        for (int address = 0; address < 40; address++) {
            is("a byte of its own at " + address, x.peek(address), 255 - address);
        }
        is("none at -1", x.peek(-1), -1);
        is("none at 40", x.peek(40), -1);
        is("no store at -1", x.store(-1, 1, 1), -2);
        is("no store at 40", x.store(40, 1, 1), -2);
    }

    private static void everyByteIs0AtFirst() {
        WatchpointUnit x = new WatchpointUnit();
        for (int address = 0; address < 40; address++) {
            is("peek(" + address + ") at first", x.peek(address), 0);
            is("load(" + address + ", 1) at first", x.load(address, 1), 0);
        }
    }

    private static void aByteHolds0To255() {
        WatchpointUnit x = new WatchpointUnit();
        int[] values = {0, 1, 127, 128, 255, 256, 257, 511, -1, -128, -129, -255, -256, -257, MIN, MAX};
        for (int value : values) {
            x.store(39, 1, value);
            is("the byte of " + value, x.peek(39), Math.floorMod(value, 256));
        }
    }

    private static void anAccessLiesAnywhereWithinTheMemory() {
        for (int size = 1; size <= 4; size *= 2) {
            for (int address = -5; address <= 45; address++) {
                boolean within = address >= 0 && address + size <= 40;
                WatchpointUnit x = new WatchpointUnit();
                String which = "(" + address + ", " + size + ")";
                is("store" + which, x.store(address, size, -1), within ? 0 : -2);
                is("load" + which, x.load(address, size), within ? (int) ((1L << 8 * size) - 1) : 0);
                is("accesses of" + which, x.accesses(), within ? 2 : 0);
            }
        }
    }

    private static void theLeastAddressHasTheLowestBits() {
        for (int address = 0; address <= 36; address++) {
            WatchpointUnit x = new WatchpointUnit();
            x.store(address, 4, 0xF4E3D2C1);
            is("lowest", x.peek(address), 0xC1);
            is("second", x.peek(address + 1), 0xD2);
            is("third", x.peek(address + 2), 0xE3);
            is("highest", x.peek(address + 3), 0xF4);
            is("the lower two", x.load(address, 2), 0xD2C1);
            is("the upper two", x.load(address + 2, 2), 0xF4E3);
            x.store(address + 1, 2, 0x0B0A);
            is("the middle two", x.load(address, 4), 0xF40B0AC1);
        }
    }

    private static void oneByteIsNotNegative() {
        WatchpointUnit x = new WatchpointUnit();
        for (int value = 0; value <= 255; value++) {
            x.store(0, 1, value);
            is("load(0, 1) of " + value, x.load(0, 1), value);
        }
    }

    private static void twoBytesAreNotNegative() {
        WatchpointUnit x = new WatchpointUnit();
        for (int value : new int[] {0, 255, 256, 0x7FFF, 0x8000, 0x80FF, 0xFF80, 0xFFFF}) {
            x.store(38, 2, value);
            is("load(38, 2) of " + value, x.load(38, 2), value);
        }
        x.store(38, 2, -1);
        is("load(38, 2) of -1", x.load(38, 2), 65535);
    }

    private static void fourBytesMakeAnInt() {
        WatchpointUnit x = new WatchpointUnit();
        int[] values = {0, -1, MIN, MAX, MIN + 1, 0x80808080, 0x00FF00FF, 0xFF00FF00, 65536, 1 << 24};
        for (int value : values) {
            x.store(36, 4, value);
            is("load(36, 4) of " + value, x.load(36, 4), value);
        }
    }

    // The watches and what hits them

    private static void thereAreEightWatches() {
        WatchpointUnit x = new WatchpointUnit();
        is("no watch -1", x.set(-1, 0, 1, 1), -1);
        is("no watch 8", x.set(8, 0, 1, 1), -1);
        for (int watch = 0; watch < 8; watch++) {
            is("watch " + watch + " is not set at first", x.hits(watch), -2);
            is("watch " + watch, x.set(watch, 0, 1, 1), 0);
        }
    }

    private static void aRangeIsHitAtItsEdges() {
        for (int length = 1; length <= 16; length++) {
            for (int size = 1; size <= 4; size *= 2) {
                int last = 12 + length - 1;
                WatchpointUnit x = new WatchpointUnit();
                x.set(0, 12, length, 2);
                String which = " with " + size + " bytes and length " + length;
                is("all before it" + which, x.store(12 - size, size, -1), 0);
                is("the last byte in it" + which, x.store(12 - size + 1, size, -1), 1);
                is("the first byte in it" + which, x.store(last, size, -1), 1);
                is("all after it" + which, x.store(last + 1, size, -1), 0);
            }
        }
    }

    private static void aRangeIsHitAtTheEndsOfTheMemory() {
        WatchpointUnit x = new WatchpointUnit();
        x.set(0, 0, 1, 2);
        x.set(1, 39, 1, 2);
        for (int size = 1; size <= 4; size *= 2) {
            is("at 0 with " + size, x.store(0, size, 1), 1);
            is("its mask", x.stopMask(0), 1);
            is("past 0 with " + size, x.store(1, size, 1), 0);
            is("up to 39 with " + size, x.store(40 - size, size, 1), 1);
            is("its mask", x.stopMask(0), 2);
            is("up to 38 with " + size, x.store(39 - size, size, 1), 0);
        }
    }

    private static void aPausedWatchIsNotHit() {
        WatchpointUnit x = new WatchpointUnit();
        x.set(0, 0, 1, 3);
        x.set(1, 0, 1, 3);
        x.pause(0, 1);
        is("one of two is paused", x.store(0, 1, 1), 1);
        is("its mask", x.stopMask(0), 2);
        is("its hits", x.hits(0), 0);
        x.pause(0, 0);
        is("both go on", x.store(0, 1, 1), 2);
    }

    private static WatchpointUnit allKinds(int first, int length) {
        WatchpointUnit x = new WatchpointUnit();
        for (int kind = 1; kind <= 4; kind++) {
            x.set(kind, first, length, kind);
        }
        return x;
    }

    private static void aReadHitsReadAndAccess() {
        for (int size = 1; size <= 4; size *= 2) {
            WatchpointUnit x = allKinds(10, 4);
            x.store(10, 4, -1);
            x.load(10, size);
            is("a load of " + size, x.stopMask(0), 2 + 8);
            x.sweep(11, 11);
            is("a sweep", x.stopMask(0), 2 + 8);
            is("hits of WRITE", x.hits(2), 1);
            is("hits of CHANGE", x.hits(4), 1);
        }
    }

    private static void aWriteOfTheSameHitsWriteAndAccess() {
        for (int size = 1; size <= 4; size *= 2) {
            WatchpointUnit x = allKinds(10, 4);
            is("nought over nought", x.store(10, size, 0), 2);
            is("its mask", x.stopMask(0), 4 + 8);
            x.store(10, size, -1);
            is("-1 over -1", x.store(10, size, -1), 2);
            is("its mask", x.stopMask(0), 4 + 8);
        }
    }

    private static void aWriteOfAnotherByteHitsAllButRead() {
        for (int size = 1; size <= 4; size *= 2) {
            WatchpointUnit x = allKinds(10, 4);
            is("-1 over nought", x.store(10, size, -1), 3);
            is("its mask", x.stopMask(0), 4 + 8 + 16);
            is("nought over -1", x.store(10, size, 0), 3);
            is("its mask", x.stopMask(0), 4 + 8 + 16);
        }
    }

    private static void aChangeOfAnyBitHits() {
        for (int bit = 0; bit < 32; bit++) {
            WatchpointUnit x = new WatchpointUnit();
            x.set(0, 20, 4, 4);
            is("bit " + bit + " set", x.store(20, 4, 1 << bit), 1);
            is("bit " + bit + " as before", x.store(20, 4, 1 << bit), 0);
            is("bit " + bit + " cleared", x.store(20, 4, 0), 1);
        }
    }

    private static void aChangeBesideTheRangeHitsNoChange() {
        WatchpointUnit x = new WatchpointUnit();
        x.set(0, 21, 2, 4);
        x.set(1, 21, 2, 2);
        is("beside it on both sides", x.store(20, 4, 0xFF0000FF), 1);
        is("its mask", x.stopMask(0), 2);
        is("beside it, below", x.store(20, 4, 0xFF000001), 1);
        is("its mask", x.stopMask(0), 2);
        is("the first in it", x.store(20, 4, 0xFF000101), 2);
        is("the last in it", x.store(20, 4, 0xFF010101), 2);
    }

    private static void aChangeIsSeenAtEveryByteOfTheAccess() {
        for (int at = 0; at < 4; at++) {
            for (int watched = 0; watched < 4; watched++) {
                WatchpointUnit x = new WatchpointUnit();
                x.set(0, 30 + watched, 1, 4);
                int want = at == watched ? 1 : 0;
                is("byte " + at + " for " + watched, x.store(30, 4, 0x80 << 8 * at), want);
            }
        }
    }

    private static void bitsThatAreNotWrittenAreNoChange() {
        WatchpointUnit x = new WatchpointUnit();
        x.set(0, 0, 16, 4);
        is("high bits of one byte", x.store(0, 1, 0xFFFFFF00), 0);
        is("high bits of two bytes", x.store(0, 2, 0xFFFF0000), 0);
        is("hits", x.hits(0), 0);
    }

    // Skips, hits and stops

    private static void theAccessTakesPlaceFirst() {
        WatchpointUnit x = new WatchpointUnit();
        x.set(0, 0, 4, 3);
        x.skip(0, 1);
        x.store(0, 4, 7);
        is("a skipped write is written", x.load(0, 4), 7);
        x.store(0, 4, 9);
        is("a write that stops is written", x.peek(0), 9);
        is("before it", x.before(0), 7);
        is("after it", x.after(0), 9);
    }

    private static void aSkipIsSpentByAHitAlone() {
        WatchpointUnit x = new WatchpointUnit();
        x.set(0, 10, 2, 4);
        x.skip(0, 3);
        x.load(10, 2);
        is("a read", x.skips(0), 3);
        x.store(10, 2, 0);
        is("no change", x.skips(0), 3);
        x.store(12, 1, 1);
        is("past the range", x.skips(0), 3);
        x.store(10, 2, -1);
        is("a change of two bytes spends one", x.skips(0), 2);
    }

    private static void aHitEitherSkipsOrCounts() {
        WatchpointUnit x = new WatchpointUnit();
        x.set(0, 0, 1, 3);
        x.skip(0, 1);
        is("skipped", x.store(0, 1, 1), 0);
        is("skips after it", x.skips(0), 0);
        is("hits after it", x.hits(0), 0);
        is("counted", x.store(0, 1, 1), 1);
        is("skips after it", x.skips(0), 0);
        is("hits after it", x.hits(0), 1);
    }

    private static void watchesSkipEachForThemselves() {
        WatchpointUnit x = new WatchpointUnit();
        for (int watch = 0; watch < 8; watch++) {
            x.set(watch, 0, 1, 3);
            x.skip(watch, watch);
        }
        for (int i = 0; i < 8; i++) {
            is("those with at most " + i, x.store(0, 1, 1), i + 1);
            is("their mask", x.stopMask(0), (2 << i) - 1);
        }
        for (int watch = 0; watch < 8; watch++) {
            is("hits(" + watch + ")", x.hits(watch), 8 - watch);
        }
    }

    private static void anAccessThatSkipsEverywhereIsNoStop() {
        WatchpointUnit x = new WatchpointUnit();
        for (int watch = 0; watch < 8; watch++) {
            x.set(watch, 0, 1, 3);
            x.skip(watch, 1);
        }
        is("all skip", x.store(0, 1, 1), 0);
        is("no stop", x.stops(), 0);
        is("none kept", x.kept(), 0);
        is("an access", x.accesses(), 1);
    }

    // "An object is used for at most 512 calls"

    private static void allCallsUpToThe512thAreAnswered() {
        WatchpointUnit x = new WatchpointUnit();
        x.set(0, 0, 16, 2);
        for (int call = 2; call < MOST_CALLS; call++) {
            is("call " + call, x.store(call % 16, 4, call), 1);
        }
        is("call 512", x.hits(0), 510);
    }

    private static void theCountsHoldForAllCalls() {
        // Three calls set the watches and the last one asks.
        int sweeps = MOST_CALLS - 4;
        is("hits after 508 sweeps", sweptBefore(sweeps).hits(1), 8 * sweeps);
        is("stops after 508 sweeps", sweptBefore(sweeps).stops(), 20 * sweeps);
        is("accesses after 508 sweeps", sweptBefore(sweeps).accesses(), 20 * sweeps);
        is("kept after 508 sweeps", sweptBefore(sweeps).kept(), 8);
        is("latest of 508 sweeps", sweptBefore(sweeps).stopNumber(0), 20 * sweeps);
        is("oldest of 508 sweeps", sweptBefore(sweeps).stopNumber(7), 20 * sweeps - 7);
    }

    /** An object of which every address is watched, after so many sweeps. */
    private static WatchpointUnit sweptBefore(int sweeps) {
        WatchpointUnit x = new WatchpointUnit();
        x.set(1, 0, 16, 1);
        x.set(2, 16, 16, 1);
        x.set(3, 32, 8, 1);
        for (int i = 0; i < sweeps; i++) {
            x.sweep(i % 2, 39);
        }
        return x;
    }
}
