/**
 * Runs in which the methods mix, with answers that were worked out by hand from the document and
 * so do not rest on the model.
 */
public final class MixedRunsTest {
    private static final int MOST_CALLS = 512;
    private static final int WATCHES = 8;
    private static final Due due = new Due();

    public static void main(String[] args) {
        overlappingRanges();
        skipsRunOutOneWatchAfterAnother();
        watchesTakeTurnsAtBeingPaused();
        aWatchIsSetAnewAgainAndAgain();
        theLastEightStopsOfMany();
        due.end();
    }

    private static void is(String call, long got, long want) {
        due.is(call, got, want);
    }

    private static void latestStop(WatchpointUnit x, int mask, int address, int number, int before, int after) {
        String which = "access " + number + ": ";
        is(which + "stopMask(0)", x.stopMask(0), mask);
        is(which + "stopAddress(0)", x.stopAddress(0), address);
        is(which + "stopNumber(0)", x.stopNumber(0), number);
        is(which + "before(0)", x.before(0), before);
        is(which + "after(0)", x.after(0), after);
    }

    /** Ranges 0 .. 7, 4 .. 11, 6 .. 21 and 10 .. 11, that are then changed on the way. */
    private static void overlappingRanges() {
        WatchpointUnit x = new WatchpointUnit();
        is("set(0)", x.set(0, 0, 8, WatchpointUnit.WRITE), 0);
        is("set(1)", x.set(1, 4, 8, WatchpointUnit.CHANGE), 0);
        is("set(2)", x.set(2, 6, 16, WatchpointUnit.READ), 0);
        is("set(3)", x.set(3, 10, 2, WatchpointUnit.ACCESS), 0);
        is("watched() of four", x.watched(), 22);
        is("skip(1, 2)", x.skip(1, 2), 0);

        is("a change that 1 skips", x.store(6, 4, 0x01020304), 1);
        latestStop(x, 1, 6, 1, 0, 0x01020304);
        is("skips(1) after the change", x.skips(1), 1);
        is("the same once more", x.store(6, 4, 0x01020304), 1);
        is("skips(1) after no change", x.skips(1), 1);
        is("a change in 1 and 3", x.store(9, 2, 0x0501), 1);
        latestStop(x, 8, 9, 3, 0x0001, 0x0501);
        is("skips(1) run out", x.skips(1), 0);
        is("pause(1, -7)", x.pause(1, -7), 0);
        is("a change in paused 1, and in 3", x.store(8, 4, -1), 1);
        latestStop(x, 8, 8, 4, 0x00050102, -1);
        is("hits(1) so far", x.hits(1), 0);
        is("a read in 1, 2 and 3", x.load(10, 2), 65535);
        latestStop(x, 12, 10, 5, 65535, 65535);
        is("pause(1, 0)", x.pause(1, 0), 1);

        is("set(2) anew at 20 .. 35", x.set(2, 20, 16, WatchpointUnit.READ), 1);
        is("hits(2) anew", x.hits(2), 0);
        is("watched() with a gap", x.watched(), 28);
        is("eight in 2, one in 3", x.sweep(0, 39), 9);
        is("stops() after the sweep", x.stops(), 14);
        is("accesses() after the sweep", x.accesses(), 25);
        is("kept() after the sweep", x.kept(), 8);
        latestStop(x, 4, 34, 23, 0, 0);
        is("the oldest is in 2 already", x.stopMask(7), 4);
        is("its address", x.stopAddress(7), 20);
        is("its number", x.stopNumber(7), 16);

        is("skip(3, 100)", x.skip(3, 100), 0);
        is("clear(0)", x.clear(0), 2);
        is("clear(0) again", x.clear(0), -2);
        is("a change in 1, where 0 was", x.store(4, 4, 0), 1);
        latestStop(x, 2, 4, 26, 0x03040000, 0);
        is("a change in 1 that 3 skips", x.store(11, 1, 0), 1);
        latestStop(x, 2, 11, 27, 255, 0);
        is("skips(3)", x.skips(3), 99);
        is("clear(3) with skips left", x.clear(3), 4);
        is("set(3) after it", x.set(3, 11, 1, WatchpointUnit.ACCESS), 0);
        is("skips(3) are gone", x.skips(3), 0);
        is("a read over 3", x.load(9, 4), 65535);
        latestStop(x, 8, 9, 28, 65535, 65535);
        is("pause(3, 1)", x.pause(3, 1), 0);
        is("set(3) while paused", x.set(3, 11, 1, WatchpointUnit.READ), 1);
        is("3 is not paused any more", x.pause(3, 0), 0);
        is("a read in 3", x.load(11, 1), 0);
        latestStop(x, 8, 11, 29, 0, 0);

        int[] masks = {8, 8, 2, 2, 4, 4, 4, 4, -1};
        int[] addresses = {11, 9, 11, 4, 34, 32, 30, 28, -1};
        for (int stop = 0; stop <= 8; stop++) {
            is("stopMask(" + stop + ") at last", x.stopMask(stop), masks[stop]);
            is("stopAddress(" + stop + ") at last", x.stopAddress(stop), addresses[stop]);
        }
        is("clear(1)", x.clear(1), 2);
        is("clear(2)", x.clear(2), 8);
        is("watched() of 3 alone", x.watched(), 1);
        is("clear(3)", x.clear(3), 1);
        is("watched() of none", x.watched(), 0);
        is("no watch, no stop", x.store(8, 4, 77), 0);
        is("stops() at last", x.stops(), 18);
        is("accesses() at last", x.accesses(), 30);
        latestStop(x, 8, 11, 29, 0, 0);
    }

    /** All watches at one byte; watch w lets 10 * w hits go by. */
    private static void skipsRunOutOneWatchAfterAnother() {
        WatchpointUnit x = new WatchpointUnit();
        for (int watch = 0; watch < WATCHES; watch++) {
            is("set", x.set(watch, 20, 1 + watch, WatchpointUnit.ACCESS), 0);
            is("skip", x.skip(watch, 10 * watch), 0);
        }
        int stores = MOST_CALLS - 3 * WATCHES;
        for (int store = 1; store <= stores; store++) {
            is("store " + store, x.store(17, 4, store), Math.min(WATCHES, (store + 9) / 10));
        }
        for (int watch = 0; watch < WATCHES; watch++) {
            is("hits(" + watch + ")", x.hits(watch), stores - 10 * watch);
        }
    }

    /** In each round another watch sleeps through one of the two accesses. */
    private static void watchesTakeTurnsAtBeingPaused() {
        WatchpointUnit x = new WatchpointUnit();
        for (int watch = 0; watch < WATCHES; watch++) {
            x.set(watch, 3 * watch, 16, WatchpointUnit.ACCESS);
        }
        // 15 is in the ranges of 0 .. 5 alone, and 21 in those of 2 .. 7 alone.
        int rounds = 80;
        for (int round = 0; round < rounds; round++) {
            int asleep = round % WATCHES;
            is("pause(" + asleep + ", 1)", x.pause(asleep, 1), 0);
            is("store(15)", x.store(15, 1, round), asleep <= 5 ? 5 : 6);
            is("its mask", x.stopMask(0), 0b00111111 & ~(1 << asleep));
            is("pause(" + asleep + ", 0)", x.pause(asleep, 0), 1);
            is("load(21)", x.load(21, 1), 0);
            is("its mask", x.stopMask(0), 0b11111100);
        }
        for (int watch = 0; watch < WATCHES; watch++) {
            int stores = watch <= 5 ? rounds - rounds / WATCHES : 0;
            int loads = watch >= 2 ? rounds : 0;
            is("hits(" + watch + ")", x.hits(watch), stores + loads);
        }
        is("stops()", x.stops(), 2 * rounds);
        is("accesses()", x.accesses(), 2 * rounds);
        is("watched()", x.watched(), 37);
    }

    /** Each setting anew forgets the pause, the skips and the hits of the one before. */
    private static void aWatchIsSetAnewAgainAndAgain() {
        WatchpointUnit x = new WatchpointUnit();
        int rounds = 50;
        for (int round = 0; round < rounds; round++) {
            int first = round % 25;
            is("set", x.set(6, first, 16, WatchpointUnit.WRITE), round == 0 ? 0 : 1);
            is("hits at first", x.hits(6), 0);
            is("skips at first", x.skips(6), 0);
            is("its first byte", x.store(first, 1, 1), 1);
            is("its last byte", x.store(first + 15, 1, 1), 1);
            is("skip", x.skip(6, 100), 0);
            is("a skipped write", x.store(first, 1, 2), 0);
            is("hits", x.hits(6), 2);
            is("pause", x.pause(6, 1), 0);
            is("skips at last", x.skips(6), 99);
        }
        is("stops()", x.stops(), 2 * rounds);
        is("accesses()", x.accesses(), 3 * rounds);
        is("kept()", x.kept(), 8);
    }

    /** Thirty stops, with accesses between them that are none; after each all kept ones are told. */
    private static void theLastEightStopsOfMany() {
        for (int made = 0; made <= 30; made++) {
            WatchpointUnit x = new WatchpointUnit();
            x.set(5, 0, 16, WatchpointUnit.CHANGE);
            for (int stop = 1; stop <= made; stop++) {
                x.store(stop % 13, 4, stop);
                x.store(stop % 13, 4, stop);
                x.load(stop % 13, 4);
            }
            is("kept() of " + made, x.kept(), Math.min(made, 8));
            for (int stop = 0; stop < 8; stop++) {
                String which = "(" + stop + ") of " + made;
                int told = made - stop;
                boolean there = told >= 1;
                is("stopMask" + which, x.stopMask(stop), there ? 32 : -1);
                is("stopAddress" + which, x.stopAddress(stop), there ? told % 13 : -1);
                is("stopNumber" + which, x.stopNumber(stop), there ? 3 * told - 2 : -1);
                is("after" + which, x.after(stop), there ? told : 0);
            }
            is("stopMask(8) of " + made, x.stopMask(8), -1);
        }
    }
}
