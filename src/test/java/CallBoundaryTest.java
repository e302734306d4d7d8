/**
 * Promises 1 to 8: a test of its own for each sentence that names a boundary case, with the last
 * value that is allowed and the first that is not, and the ints at which a sum would wrap around.
 */
public final class CallBoundaryTest {
    private static final int MIN = Integer.MIN_VALUE;
    private static final int MAX = Integer.MAX_VALUE;
    private static final int[] NO_WATCH = {-1, 8, -2, 9, -8, 16, 256, MIN, MIN + 7, MAX};
    private static final int[] NO_LENGTH = {0, 17, -1, 18, -16, 40, 257, MIN, MIN + 16, MAX};
    private static final int[] NO_KIND = {0, 5, -1, 6, -4, 8, 257, MIN, MIN + 4, MAX};
    private static final int[] NO_SIZE = {0, 3, 5, -1, 6, 7, 8, -2, -4, 16, 257, MIN, MIN + 4, MAX};
    private static final int[] SIZES = {1, 2, 4};
    private static final int[] FLAGS = {1, -1, 2, 256, 1 << 16, MIN, MAX};
    private static final Due due = new Due();

    public static void main(String[] args) {
        newObjectHasNoWatches();
        newObjectHasSeenNothing();

        setTakesEveryWatch();
        setRefusesNoWatch();
        setTakesLengths1To16();
        setRefusesOtherLengths();
        setTakesFirstFrom0();
        setRefusesFirstBelow0();
        setTakesRangeUpToTheEnd();
        setRefusesRangePastTheEnd();
        setRefusesSumsThatWrapAround();
        setTakesKinds1To4();
        setRefusesOtherKinds();
        setTestsInOrder();
        setAnswersWhetherItWasSet();
        setAnewPutsTheNewRange();
        setAnewPutsTheNewKind();
        setAnewIsNotPaused();
        setAnewHasNoSkips();
        setAnewHasNoHits();
        setLeavesTheOtherWatches();

        clearRefusesNoWatch();
        clearRefusesAWatchThatIsNotSet();
        clearTwiceIsRefused();
        clearAnswersTheHits();
        clearedWatchIsNotSetAnyMore();
        clearLeavesTheOtherWatches();

        pauseRefusesNoWatch();
        pauseRefusesAWatchThatIsNotSet();
        pauseTakesEveryFlagButNoughtAsPaused();
        pauseAnswersWhetherItWasPaused();
        pausedWatchIsNotHit();

        skipRefusesNoWatch();
        skipRefusesAWatchThatIsNotSet();
        skipTakes0To100();
        skipRefusesOtherSkips();
        skipTestsInOrder();
        skipAnswersTheSkipsBefore();

        loadRefusesOtherSizes();
        loadRefusesAddressesBelow0();
        loadTakesEveryAddressUpToTheEnd();
        loadRefusesAddressesPastTheEnd();
        loadRefusesSumsThatWrapAround();

        storeRefusesOtherSizes();
        storeRefusesAddressesBelow0();
        storeTakesEveryAddressUpToTheEnd();
        storeRefusesAddressesPastTheEnd();
        storeRefusesSumsThatWrapAround();
        storeTestsInOrder();
        storeWritesTheLowBytesAlone();
        storeAnswersFromNoneToAllWatches();

        sweepTakesTheWholeMemory();
        sweepRefusesFirstBelow0();
        sweepRefusesLastAbove39();
        sweepRefusesFirstAboveLast();
        sweepTakesFirstEqualToLast();
        sweepReadsLastOnlyIfItIsReached();
        sweepReadsEverySecondAddressOnce();
        sweepReadsInRisingOrder();
        sweepAnswersHowManyWereStops();
        due.end();
    }

    private static void is(String call, long got, long want) {
        due.is(call, got, want);
    }

    // Promise 1

    private static void newObjectHasNoWatches() {
        for (int watch = 0; watch < 8; watch++) {
            WatchpointUnit x = new WatchpointUnit();
            is("1: hits(" + watch + ")", x.hits(watch), -2);
            is("1: skips(" + watch + ")", x.skips(watch), -2);
            is("1: clear(" + watch + ")", x.clear(watch), -2);
            is("1: set(" + watch + ")", x.set(watch, 0, 1, 1), 0);
        }
        WatchpointUnit x = new WatchpointUnit();
        is("1: watched()", x.watched(), 0);
        is("1: a sweep stops nowhere", x.sweep(0, 39) + x.sweep(1, 39), 0);
        is("1: a store stops nowhere", x.store(0, 4, -1), 0);
    }

    private static void newObjectHasSeenNothing() {
        WatchpointUnit x = new WatchpointUnit();
        is("1: stops()", x.stops(), 0);
        is("1: accesses()", x.accesses(), 0);
        is("1: kept()", x.kept(), 0);
        is("1: stopMask(0)", x.stopMask(0), -1);
        is("1: stopAddress(0)", x.stopAddress(0), -1);
        is("1: stopNumber(0)", x.stopNumber(0), -1);
        is("1: before(0)", x.before(0), 0);
        is("1: after(0)", x.after(0), 0);
        for (int address = 0; address < 40; address++) {
            is("1: peek(" + address + ")", x.peek(address), 0);
        }
    }

    // Promise 2

    private static void setTakesEveryWatch() {
        WatchpointUnit x = new WatchpointUnit();
        for (int watch = 0; watch < 8; watch++) {
            is("2: set(" + watch + ")", x.set(watch, watch, 1, 3), 0);
        }
        is("2: all are set", x.watched(), 8);
        for (int watch = 0; watch < 8; watch++) {
            x.load(watch, 1);
            is("2: the watch that was set", x.stopMask(0), 1 << watch);
        }
    }

    private static void setRefusesNoWatch() {
        for (int watch : NO_WATCH) {
            due.changesNothing("set(" + watch + ", 0, 1, 1)", x -> x.set(watch, 0, 1, 1), -1);
        }
    }

    /** Refused for every watch, set or not, paused or skipping. */
    private static void setRefused(int first, int length, int kind, int want) {
        for (int i = 0; i < 8; i++) {
            int watch = i;
            due.changesNothing("set(" + watch + ", " + first + ", " + length + ", " + kind + ")",
                    x -> x.set(watch, first, length, kind), want);
        }
    }

    private static void setTakesLengths1To16() {
        for (int length = 1; length <= 16; length++) {
            WatchpointUnit x = new WatchpointUnit();
            is("2: length " + length, x.set(0, 11, length, 3), 0);
            is("2: watched of length " + length, x.watched(), length);
            for (int address = 0; address < 40; address++) {
                int want = address >= 11 && address <= 11 + length - 1 ? 1 : 0;
                is("2: " + address + " in 11, length " + length, x.store(address, 1, 1), want);
            }
        }
    }

    private static void setRefusesOtherLengths() {
        for (int length : NO_LENGTH) {
            setRefused(0, length, 1, -2);
        }
    }

    private static void setTakesFirstFrom0() {
        for (int length = 1; length <= 16; length++) {
            WatchpointUnit x = new WatchpointUnit();
            is("2: first 0, length " + length, x.set(0, 0, length, 1), 0);
            x.load(0, 1);
            is("2: 0 is in it", x.hits(0), 1);
        }
    }

    private static void setRefusesFirstBelow0() {
        for (int length = 1; length <= 16; length++) {
            for (int first : new int[] {-1, -2, -length, -length + 1, -40, MIN, MIN + 1, MIN + 39}) {
                if (first < 0) {
                    setRefused(first, length, 1, -3);
                }
            }
        }
    }

    private static void setTakesRangeUpToTheEnd() {
        for (int length = 1; length <= 16; length++) {
            WatchpointUnit x = new WatchpointUnit();
            is("2: up to 39, length " + length, x.set(0, 40 - length, length, 1), 0);
            is("2: all of it is watched", x.watched(), length);
            x.load(39, 1);
            is("2: 39 is in it", x.hits(0), 1);
        }
    }

    private static void setRefusesRangePastTheEnd() {
        for (int length = 1; length <= 16; length++) {
            for (int first : new int[] {41 - length, 42 - length, 40, 41, 256}) {
                setRefused(first, length, 1, -3);
            }
        }
    }

    private static void setRefusesSumsThatWrapAround() {
        for (int length = 1; length <= 16; length++) {
            for (int first : new int[] {MAX, MAX - length + 2, MAX - length + 1, MAX - length, MAX - 15}) {
                if (first > 0) {
                    setRefused(first, length, 1, -3);
                }
            }
        }
    }

    private static void setTakesKinds1To4() {
        int[] onRead = {1, 0, 1, 0};
        int[] onSameWrite = {0, 1, 1, 0};
        int[] onChange = {0, 1, 1, 1};
        for (int kind = 1; kind <= 4; kind++) {
            WatchpointUnit x = new WatchpointUnit();
            is("2: kind " + kind, x.set(0, 5, 1, kind), 0);
            is("2: a read for kind " + kind, x.sweep(5, 5), onRead[kind - 1]);
            is("2: the same byte for kind " + kind, x.store(5, 1, 0), onSameWrite[kind - 1]);
            is("2: another byte for kind " + kind, x.store(5, 1, 1), onChange[kind - 1]);
        }
    }

    private static void setRefusesOtherKinds() {
        for (int kind : NO_KIND) {
            setRefused(5, 6, kind, -4);
            setRefused(24, 16, kind, -4);
        }
    }

    private static void setTestsInOrder() {
        int[] watches = {-1, 0, 7, 8, MIN, MAX};
        int[] firsts = {-1, 0, 24, 25, 39, 40, MIN, MAX, MAX - 15};
        int[] lengths = {0, 1, 16, 17, MIN, MAX};
        int[] kinds = {0, 1, 4, 5, MIN, MAX};
        for (int watch : watches) {
            for (int first : firsts) {
                for (int length : lengths) {
                    for (int kind : kinds) {
                        int want = setAnswer(watch, first, length, kind);
                        is("2: set(" + watch + ", " + first + ", " + length + ", " + kind + ")",
                                new WatchpointUnit().set(watch, first, length, kind), want);
                    }
                }
            }
        }
    }

    private static int setAnswer(int watch, int first, int length, int kind) {
        if (watch < 0 || watch > 7) {
            return -1;
        }
        if (length < 1 || length > 16) {
            return -2;
        }
        if (first < 0 || (long) first + length > 40) {
            return -3;
        }
        return kind < 1 || kind > 4 ? -4 : 0;
    }

    private static void setAnswersWhetherItWasSet() {
        for (int watch = 0; watch < 8; watch++) {
            WatchpointUnit x = new WatchpointUnit();
            is("2: not set before", x.set(watch, 0, 1, 1), 0);
            is("2: set before", x.set(watch, 0, 1, 1), 1);
            is("2: set before, with other values", x.set(watch, 24, 16, 4), 1);
            x.pause(watch, 1);
            is("2: set before and paused", x.set(watch, 0, 1, 1), 1);
            x.clear(watch);
            is("2: cleared before", x.set(watch, 0, 1, 1), 0);
            x.clear(watch);
            is("2: refused", x.set(watch, 0, 1, 5), -4);
            is("2: refused before", x.set(watch, 0, 1, 1), 0);
            is("2: the next one", x.set((watch + 1) % 8, 0, 1, 1), 0);
        }
    }

    private static void setAnewPutsTheNewRange() {
        WatchpointUnit x = new WatchpointUnit();
        x.set(3, 0, 16, 3);
        x.set(3, 15, 2, 3);
        is("2: the old range alone", x.store(11, 4, 1), 0);
        is("2: first of the new range", x.store(15, 1, 1), 1);
        is("2: last of the new range", x.store(16, 1, 1), 1);
        is("2: after the new range", x.store(17, 1, 1), 0);
        is("2: watched", x.watched(), 2);
    }

    private static void setAnewPutsTheNewKind() {
        for (int kind = 1; kind <= 4; kind++) {
            WatchpointUnit x = new WatchpointUnit();
            x.set(3, 0, 16, 5 - kind);
            x.set(3, 0, 16, kind);
            WatchpointUnit y = new WatchpointUnit();
            y.set(3, 0, 16, kind);
            due.same("2: kind " + kind + " set anew", x, y);
        }
    }

    private static void setAnewIsNotPaused() {
        WatchpointUnit x = new WatchpointUnit();
        x.set(3, 0, 1, 3);
        x.pause(3, 1);
        x.set(3, 0, 1, 3);
        is("2: set anew is watched", x.watched(), 1);
        is("2: set anew is hit", x.store(0, 1, 1), 1);
        is("2: set anew was not paused", x.pause(3, 1), 0);
        x.clear(3);
        x.set(3, 0, 1, 3);
        is("2: paused, cleared and set was not paused", x.pause(3, 1), 0);
    }

    private static void setAnewHasNoSkips() {
        WatchpointUnit x = new WatchpointUnit();
        x.set(3, 0, 1, 3);
        x.skip(3, 100);
        x.set(3, 0, 1, 3);
        is("2: set anew has skips", x.skips(3), 0);
        is("2: set anew stops", x.store(0, 1, 1), 1);
        x.skip(3, 1);
        x.clear(3);
        x.set(3, 0, 1, 3);
        is("2: cleared and set has skips", x.skips(3), 0);
    }

    private static void setAnewHasNoHits() {
        WatchpointUnit x = new WatchpointUnit();
        x.set(3, 0, 1, 3);
        x.load(0, 1);
        is("2: hits before", x.hits(3), 1);
        x.set(3, 0, 1, 3);
        is("2: set anew has hits", x.hits(3), 0);
        x.load(0, 1);
        x.clear(3);
        x.set(3, 0, 1, 3);
        is("2: cleared and set has hits", x.hits(3), 0);
        is("2: the stops stay", x.stops(), 2);
    }

    private static void setLeavesTheOtherWatches() {
        for (int watch = 0; watch < 8; watch++) {
            WatchpointUnit x = States.BUSY.make();
            WatchpointUnit y = States.BUSY.make();
            is("2: set anew in between", x.set(watch, 0, 16, 3), 1);
            for (int other = 0; other < 8; other++) {
                if (other != watch) {
                    is("2: hits of another", x.hits(other), y.hits(other));
                    is("2: skips of another", x.skips(other), y.skips(other));
                    is("2: another paused", x.pause(other, 0), y.pause(other, 0));
                }
            }
        }
    }

    // Promise 3

    private static void clearRefusesNoWatch() {
        for (int watch : NO_WATCH) {
            due.changesNothing("clear(" + watch + ")", x -> x.clear(watch), -1);
        }
    }

    private static void clearRefusesAWatchThatIsNotSet() {
        for (States state : States.values()) {
            for (int watch : state.watches(false)) {
                due.changesNothing("clear(" + watch + ")", state, x -> x.clear(watch), -2);
            }
        }
    }

    private static void clearTwiceIsRefused() {
        for (int watch = 0; watch < 8; watch++) {
            WatchpointUnit x = States.BUSY.make();
            int hits = x.hits(watch);
            is("3: clear(" + watch + ")", x.clear(watch), hits);
            is("3: clear(" + watch + ") again", x.clear(watch), -2);
        }
    }

    private static void clearAnswersTheHits() {
        WatchpointUnit x = new WatchpointUnit();
        x.set(7, 0, 16, 3);
        is("3: no hits", x.clear(7), 0);
        x.set(7, 0, 16, 3);
        x.load(0, 1);
        is("3: one hit", x.clear(7), 1);
        x.set(7, 0, 16, 3);
        x.sweep(0, 39);
        is("3: eight hits", x.clear(7), 8);
        x.set(7, 0, 16, 3);
        x.skip(7, 2);
        x.sweep(0, 4);
        x.pause(7, 1);
        x.load(0, 1);
        is("3: neither skipped nor paused ones", x.clear(7), 1);
    }

    private static void clearedWatchIsNotSetAnyMore() {
        WatchpointUnit x = new WatchpointUnit();
        x.set(0, 0, 16, 3);
        x.load(0, 1);
        x.clear(0);
        is("3: hits", x.hits(0), -2);
        is("3: skips", x.skips(0), -2);
        is("3: pause", x.pause(0, 1), -2);
        is("3: skip", x.skip(0, 1), -2);
        is("3: watched", x.watched(), 0);
        is("3: no hit", x.store(0, 4, -1), 0);
        is("3: the stop stays kept", x.kept(), 1);
        is("3: its mask stays", x.stopMask(0), 1);
    }

    private static void clearLeavesTheOtherWatches() {
        for (int watch = 0; watch < 8; watch++) {
            WatchpointUnit x = new WatchpointUnit();
            for (int other = 0; other < 8; other++) {
                x.set(other, 0, 1, 3);
            }
            x.clear(watch);
            is("3: all but one are hit", x.store(0, 1, 1), 7);
            is("3: the others' mask", x.stopMask(0), 255 - (1 << watch));
        }
    }

    // Promise 4

    private static void pauseRefusesNoWatch() {
        for (int watch : NO_WATCH) {
            due.changesNothing("pause(" + watch + ", 1)", x -> x.pause(watch, 1), -1);
            due.changesNothing("pause(" + watch + ", 0)", x -> x.pause(watch, 0), -1);
        }
    }

    private static void pauseRefusesAWatchThatIsNotSet() {
        for (States state : States.values()) {
            for (int watch : state.watches(false)) {
                due.changesNothing("pause(" + watch + ", 1)", state, x -> x.pause(watch, 1), -2);
                due.changesNothing("pause(" + watch + ", 0)", state, x -> x.pause(watch, 0), -2);
            }
        }
        WatchpointUnit x = new WatchpointUnit();
        x.pause(3, 1);
        x.set(3, 0, 1, 3);
        is("4: a refused pause does not wait for set", x.watched(), 1);
    }

    private static void pauseTakesEveryFlagButNoughtAsPaused() {
        for (int flag : FLAGS) {
            WatchpointUnit x = new WatchpointUnit();
            x.set(0, 0, 16, 3);
            is("4: pause(0, " + flag + ")", x.pause(0, flag), 0);
            is("4: not watched with flag " + flag, x.watched(), 0);
            is("4: not hit with flag " + flag, x.store(0, 1, 1), 0);
            is("4: paused again with flag " + flag, x.pause(0, flag), 1);
            is("4: pause(0, 0)", x.pause(0, 0), 1);
            is("4: watched with flag 0", x.watched(), 16);
            is("4: hit with flag 0", x.store(0, 1, 1), 1);
        }
    }

    private static void pauseAnswersWhetherItWasPaused() {
        for (int watch = 0; watch < 8; watch++) {
            WatchpointUnit x = new WatchpointUnit();
            x.set(watch, 0, 1, 1);
            x.set((watch + 1) % 8, 0, 1, 1);
            is("4: going on, goes on", x.pause(watch, 0), 0);
            is("4: going on, paused", x.pause(watch, 1), 0);
            is("4: paused, paused", x.pause(watch, 1), 1);
            is("4: paused, goes on", x.pause(watch, 0), 1);
            is("4: going on again", x.pause(watch, 1), 0);
            is("4: the next one is not paused", x.pause((watch + 1) % 8, 1), 0);
        }
    }

    private static void pausedWatchIsNotHit() {
        for (int kind = 1; kind <= 4; kind++) {
            WatchpointUnit x = new WatchpointUnit();
            x.set(2, 0, 16, kind);
            x.skip(2, 5);
            x.pause(2, 1);
            x.sweep(0, 15);
            x.store(0, 4, -1);
            is("4: no skip is spent while paused", x.skips(2), 5);
            x.skip(2, 0);
            x.sweep(0, 15);
            x.store(0, 4, 0);
            is("4: no hit while paused", x.hits(2), 0);
            is("4: no stop while paused", x.stops(), 0);
            is("4: the accesses count", x.accesses(), 18);
        }
    }

    // Promise 5

    private static void skipRefusesNoWatch() {
        for (int watch : NO_WATCH) {
            due.changesNothing("skip(" + watch + ", 1)", x -> x.skip(watch, 1), -1);
        }
    }

    private static void skipRefusesAWatchThatIsNotSet() {
        for (States state : States.values()) {
            for (int watch : state.watches(false)) {
                due.changesNothing("skip(" + watch + ", 1)", state, x -> x.skip(watch, 1), -2);
            }
        }
        WatchpointUnit x = new WatchpointUnit();
        x.skip(3, 1);
        x.set(3, 0, 1, 3);
        is("5: a refused skip does not wait for set", x.store(0, 1, 1), 1);
    }

    private static void skipTakes0To100() {
        for (int skips = 0; skips <= 100; skips++) {
            WatchpointUnit x = new WatchpointUnit();
            x.set(5, 0, 1, 3);
            is("5: skip(5, " + skips + ")", x.skip(5, skips), 0);
            is("5: skips(5)", x.skips(5), skips);
            for (int i = 0; i < skips; i++) {
                is("5: skipped access " + i + " of " + skips, x.store(0, 1, 1), 0);
            }
            is("5: none are left of " + skips, x.skips(5), 0);
            is("5: the access after " + skips, x.store(0, 1, 1), 1);
            is("5: its number", x.stopNumber(0), skips + 1);
        }
    }

    private static void skipRefusesOtherSkips() {
        int[] noSkips = {-1, 101, -2, 102, -100, 127, 128, 256, 65536, MIN, MIN + 100, MAX};
        for (States state : States.values()) {
            for (int watch : state.watches(true)) {
                for (int skips : noSkips) {
                    due.changesNothing("skip(" + watch + ", " + skips + ")", state,
                            x -> x.skip(watch, skips), -3);
                }
            }
        }
    }

    private static void skipTestsInOrder() {
        for (int skips : new int[] {-1, 101, MIN, MAX}) {
            for (int watch : NO_WATCH) {
                due.changesNothing("skip(" + watch + ", " + skips + ")",
                        x -> x.skip(watch, skips), -1);
            }
            for (int watch : States.HALF.watches(false)) {
                due.changesNothing("skip(" + watch + ", " + skips + ")", States.HALF,
                        x -> x.skip(watch, skips), -2);
            }
        }
    }

    private static void skipAnswersTheSkipsBefore() {
        WatchpointUnit x = new WatchpointUnit();
        x.set(7, 0, 1, 3);
        is("5: at first", x.skip(7, 100), 0);
        is("5: the greatest", x.skip(7, 2), 100);
        x.load(0, 1);
        is("5: one is spent", x.skip(7, 0), 1);
        is("5: set to 0", x.skip(7, 1), 0);
        x.load(0, 1);
        x.load(0, 1);
        is("5: all are spent", x.skip(7, 1), 0);
        is("5: a refused one", x.skip(7, 101), -3);
        is("5: before the refused one", x.skip(7, 0), 1);
    }

    // Promise 6

    private static void loadRefusesOtherSizes() {
        for (int size : NO_SIZE) {
            for (int address : new int[] {0, 1, 24, 36, 39}) {
                due.changesNothing("load(" + address + ", " + size + ")",
                        x -> x.load(address, size), 0);
            }
        }
    }

    private static void loadRefusesAddressesBelow0() {
        for (int size : SIZES) {
            for (int address : new int[] {-1, -2, -3, -4, -40, MIN, MIN + 1, MIN + 39}) {
                due.changesNothing("load(" + address + ", " + size + ")",
                        x -> x.load(address, size), 0);
            }
        }
    }

    private static void loadTakesEveryAddressUpToTheEnd() {
        for (int size : SIZES) {
            WatchpointUnit x = new WatchpointUnit();
            for (int address = 0; address < 40; address++) {
                x.store(address, 1, 200 + address);
            }
            for (int address = 0; address <= 40 - size; address++) {
                is("6: load(" + address + ", " + size + ")", x.load(address, size),
                        numberOf(200 + address, size));
                is("6: its access", x.accesses(), 41 + address);
            }
        }
    }

    /** The number of bytes that rise by one from the lowest. */
    private static int numberOf(int lowest, int size) {
        int number = 0;
        for (int i = size - 1; i >= 0; i--) {
            number = number * 256 + lowest + i;
        }
        return number;
    }

    private static void loadRefusesAddressesPastTheEnd() {
        for (int size : SIZES) {
            for (int address : new int[] {41 - size, 42 - size, 40, 41, 256}) {
                due.changesNothing("load(" + address + ", " + size + ")",
                        x -> x.load(address, size), 0);
            }
        }
    }

    private static void loadRefusesSumsThatWrapAround() {
        for (int size : SIZES) {
            for (int address : new int[] {MAX, MAX - 1, MAX - 2, MAX - 3, MAX - 4}) {
                due.changesNothing("load(" + address + ", " + size + ")",
                        x -> x.load(address, size), 0);
            }
        }
        for (int address : new int[] {MIN, -1, 0, 39, MAX}) {
            for (int size : new int[] {MIN, MIN + 40, MAX, MAX - 39}) {
                due.changesNothing("load(" + address + ", " + size + ")",
                        x -> x.load(address, size), 0);
            }
        }
    }

    // Promise 7

    private static void storeRefusesOtherSizes() {
        for (int size : NO_SIZE) {
            for (int address : new int[] {0, 1, 24, 36, 39}) {
                due.changesNothing("store(" + address + ", " + size + ", 1)",
                        x -> x.store(address, size, 1), -1);
            }
        }
    }

    private static void storeRefusesAddressesBelow0() {
        for (int size : SIZES) {
            for (int address : new int[] {-1, -2, -3, -4, -40, MIN, MIN + 1, MIN + 39}) {
                due.changesNothing("store(" + address + ", " + size + ", 1)",
                        x -> x.store(address, size, 1), -2);
            }
        }
    }

    private static void storeTakesEveryAddressUpToTheEnd() {
        for (int size : SIZES) {
            for (int address = 0; address <= 40 - size; address++) {
                WatchpointUnit x = new WatchpointUnit();
                is("7: store(" + address + ", " + size + ", -1)", x.store(address, size, -1), 0);
                is("7: its access", x.accesses(), 1);
                for (int at = 0; at < 40; at++) {
                    int want = at >= address && at < address + size ? 255 : 0;
                    is("7: peek(" + at + ")", x.peek(at), want);
                }
            }
        }
    }

    private static void storeRefusesAddressesPastTheEnd() {
        for (int size : SIZES) {
            for (int address : new int[] {41 - size, 42 - size, 40, 41, 256}) {
                due.changesNothing("store(" + address + ", " + size + ", 1)",
                        x -> x.store(address, size, 1), -2);
            }
        }
    }

    private static void storeRefusesSumsThatWrapAround() {
        for (int size : SIZES) {
            for (int address : new int[] {MAX, MAX - 1, MAX - 2, MAX - 3, MAX - 4}) {
                due.changesNothing("store(" + address + ", " + size + ", 1)",
                        x -> x.store(address, size, 1), -2);
            }
        }
    }

    private static void storeTestsInOrder() {
        for (int size : NO_SIZE) {
            for (int address : new int[] {-1, 40, MIN, MAX}) {
                due.changesNothing("store(" + address + ", " + size + ", 1)",
                        x -> x.store(address, size, 1), -1);
            }
        }
    }

    private static void storeWritesTheLowBytesAlone() {
        int[] values = {0, 1, 255, 256, 65535, 65536, 0x12345678, -1, -256, -65536, MIN, MAX};
        for (int value : values) {
            for (int size : SIZES) {
                WatchpointUnit x = new WatchpointUnit();
                x.store(8, 4, 0x5A5A5A5A);
                x.store(8, size, value);
                for (int i = 0; i < 4; i++) {
                    int want = i < size ? value >> 8 * i & 255 : 0x5A;
                    is("7: byte " + i + " of " + value + ", size " + size, x.peek(8 + i), want);
                }
            }
        }
    }

    private static void storeAnswersFromNoneToAllWatches() {
        for (int count = 0; count <= 8; count++) {
            WatchpointUnit x = new WatchpointUnit();
            for (int i = 0; i < count; i++) {
                x.set(7 - i, 20, 1, 2 + i % 3);
            }
            is("7: at " + count + " watches", x.store(17, 4, -1), count);
            is("7: a stop or none", x.stops(), count == 0 ? 0 : 1);
        }
    }

    // Promise 8

    private static void sweepTakesTheWholeMemory() {
        WatchpointUnit x = new WatchpointUnit();
        is("8: sweep(0, 39)", x.sweep(0, 39), 0);
        is("8: its accesses", x.accesses(), 20);
    }

    private static void sweepRefusesFirstBelow0() {
        for (int first : new int[] {-1, -2, -40, MIN, MIN + 1}) {
            for (int last : new int[] {0, 1, 39, -1, MIN}) {
                due.changesNothing("sweep(" + first + ", " + last + ")",
                        x -> x.sweep(first, last), -1);
            }
        }
    }

    private static void sweepRefusesLastAbove39() {
        for (int last : new int[] {40, 41, 256, MAX, MAX - 1}) {
            for (int first : new int[] {0, 1, 39, 40, MAX, -1, MIN}) {
                due.changesNothing("sweep(" + first + ", " + last + ")",
                        x -> x.sweep(first, last), -1);
            }
        }
    }

    private static void sweepRefusesFirstAboveLast() {
        for (int last = 0; last <= 38; last++) {
            int end = last;
            due.changesNothing("sweep(" + (end + 1) + ", " + end + ")",
                    x -> x.sweep(end + 1, end), -1);
        }
        for (int first : new int[] {2, 39, 40, 41, MAX}) {
            due.changesNothing("sweep(" + first + ", 1)", x -> x.sweep(first, 1), -1);
        }
        for (int last : new int[] {-1, -2, MIN, MIN + 1}) {
            due.changesNothing("sweep(0, " + last + ")", x -> x.sweep(0, last), -1);
        }
        due.changesNothing("sweep(40, 39)", x -> x.sweep(40, 39), -1);
    }

    private static void sweepTakesFirstEqualToLast() {
        for (int address = 0; address < 40; address++) {
            WatchpointUnit x = new WatchpointUnit();
            x.set(1, address, 1, 1);
            is("8: sweep(" + address + ", " + address + ")", x.sweep(address, address), 1);
            is("8: one access", x.accesses(), 1);
            is("8: its address", x.stopAddress(0), address);
        }
    }

    private static void sweepReadsLastOnlyIfItIsReached() {
        for (int first = 0; first <= 37; first++) {
            WatchpointUnit x = new WatchpointUnit();
            x.set(0, first, 1, 1);
            x.set(1, first + 1, 1, 1);
            x.set(2, first + 2, 1, 1);
            is("8: one short of the second", x.sweep(first, first + 1), 1);
            is("8: its mask", x.stopMask(0), 1);
            is("8: the second is reached", x.sweep(first, first + 2), 2);
            is("8: its mask", x.stopMask(0), 4);
            is("8: three accesses", x.accesses(), 3);
        }
    }

    private static void sweepReadsEverySecondAddressOnce() {
        for (int first = 0; first < 40; first++) {
            for (int last = first; last < 40; last++) {
                WatchpointUnit x = new WatchpointUnit();
                x.set(0, 0, 16, 1);
                x.set(1, 16, 16, 1);
                x.set(2, 32, 8, 1);
                int want = (last - first) / 2 + 1;
                is("8: sweep(" + first + ", " + last + ")", x.sweep(first, last), want);
                is("8: its accesses", x.accesses(), want);
                is("8: one hit for each", x.hits(0) + x.hits(1) + x.hits(2), want);
            }
        }
    }

    private static void sweepReadsInRisingOrder() {
        for (int first = 0; first <= 1; first++) {
            WatchpointUnit x = new WatchpointUnit();
            x.store(24, 4, 0x44332211);
            x.set(0, 24, 16, 1);
            x.sweep(first, 39);
            for (int stop = 0; stop < 8; stop++) {
                is("8: stopAddress(" + stop + ")", x.stopAddress(stop), 38 + first - 2 * stop);
                is("8: stopNumber(" + stop + ")", x.stopNumber(stop), 21 - stop);
            }
            is("8: one byte before", x.before(7), 0x11 + 0x11 * first);
            is("8: one byte after", x.after(6), 0x33 + 0x11 * first);
        }
    }

    private static void sweepAnswersHowManyWereStops() {
        WatchpointUnit x = new WatchpointUnit();
        x.set(0, 10, 4, 1);
        x.set(1, 10, 4, 3);
        is("8: an access at two watches is one stop", x.sweep(10, 13), 2);
        x.skip(0, 1);
        x.skip(1, 2);
        is("8: skipped at both, then at one", x.sweep(10, 13), 1);
        is("8: its mask", x.stopMask(0), 1);
        x.set(0, 10, 4, 2);
        x.set(1, 10, 4, 4);
        is("8: no writes", x.sweep(10, 13), 0);
        is("8: accesses all the same", x.accesses(), 6);
    }
}
