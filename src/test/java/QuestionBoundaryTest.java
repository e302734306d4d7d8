/** Promises 9 to 20: a test of its own for each sentence that names a boundary case. */
public final class QuestionBoundaryTest {
    private static final int MIN = Integer.MIN_VALUE;
    private static final int MAX = Integer.MAX_VALUE;
    private static final int[] NO_WATCH = {-1, 8, -2, 9, -8, 16, 256, MIN, MIN + 7, MAX};
    private static final int FILLING = 32;
    private static final Due due = new Due();

    public static void main(String[] args) {
        peekAnswersForAddresses0To39();
        peekRefusesOtherAddresses();
        peekIsNoAccess();

        hitsRefusesNoWatch();
        hitsRefusesAWatchThatIsNotSet();
        hitsCountFromNought();
        hitsCountAnAccessOnce();

        skipsRefusesNoWatch();
        skipsRefusesAWatchThatIsNotSet();
        skipsNeverFallBelow0();

        stopsCountPastTheKeptOnes();
        stopsCountAnAccessOnce();
        stopsDoNotCountSkippedAccesses();
        accessesCountWithoutWatches();
        accessesDoNotCountRefusedCalls();

        keptIsAtMostEight();
        everyNumberFrom0ToKeptIsAnswered();
        otherNumbersAreNoStops();
        theOldestIsDropped();
        aDroppedStopIsNotAnswered();

        stopMaskOfEachWatch();
        stopMaskOfAllWatches();
        stopMaskLeavesOutThoseThatSkip();
        stopAddressIsTheAccessesOwn();
        stopAddressAtTheEndsOfTheMemory();
        stopNumberOfTheFirstAccess();
        stopNumberCountsAllAccesses();
        beforeIsReadAsByLoad();
        afterIsReadAsByLoad();
        beforeAndAfterOfAReadAreTheSame();
        beforeAndAfterStayAsTheyWere();

        watchedFromNoneToAll();
        watchedCountsSharedAddressesOnce();
        watchedLeavesOutPausedWatches();
        watchedLeavesOutClearedWatches();
        watchedAtTheEndsOfTheMemory();

        noQuestionChangesAnything();
        due.end();
    }

    private static void is(String call, long got, long want) {
        due.is(call, got, want);
    }

    // Promise 9

    private static void peekAnswersForAddresses0To39() {
        WatchpointUnit x = new WatchpointUnit();
        for (int address = 0; address < 40; address++) {
            x.store(address, 1, 216 + address);
        }
        for (int address = 0; address < 40; address++) {
            is("9: peek(" + address + ")", x.peek(address), 216 + address);
        }
    }

    private static void peekRefusesOtherAddresses() {
        for (int address : new int[] {-1, 40, -2, 41, -40, 80, 256, MIN, MIN + 39, MAX}) {
            due.changesNothing("peek(" + address + ")", x -> x.peek(address), -1);
        }
    }

    private static void peekIsNoAccess() {
        for (int address = 0; address < 40; address++) {
            WatchpointUnit x = new WatchpointUnit();
            x.set(0, address, 1, 1);
            x.set(1, address, 1, 3);
            x.peek(address);
            is("9: hits of READ at " + address, x.hits(0), 0);
            is("9: hits of ACCESS at " + address, x.hits(1), 0);
            is("9: accesses", x.accesses(), 0);
            is("9: stops", x.stops(), 0);
        }
    }

    // Promise 10

    private static void hitsRefusesNoWatch() {
        for (int watch : NO_WATCH) {
            due.changesNothing("hits(" + watch + ")", x -> x.hits(watch), -1);
        }
    }

    private static void hitsRefusesAWatchThatIsNotSet() {
        for (States state : States.values()) {
            for (int watch : state.watches(false)) {
                due.changesNothing("hits(" + watch + ")", state, x -> x.hits(watch), -2);
            }
        }
    }

    private static void hitsCountFromNought() {
        for (int watch = 0; watch < 8; watch++) {
            WatchpointUnit x = new WatchpointUnit();
            x.set(watch, 0, 1, 3);
            for (int i = 0; i <= 20; i++) {
                is("10: hits(" + watch + ") after " + i, x.hits(watch), i);
                x.load(0, 1);
            }
        }
    }

    private static void hitsCountAnAccessOnce() {
        WatchpointUnit x = new WatchpointUnit();
        x.set(0, 0, 16, 3);
        x.load(0, 4);
        is("10: four bytes in the range", x.hits(0), 1);
        x.store(15, 2, -1);
        is("10: one byte in the range", x.hits(0), 2);
        x.store(16, 4, -1);
        is("10: no byte in the range", x.hits(0), 2);
    }

    // Promise 11

    private static void skipsRefusesNoWatch() {
        for (int watch : NO_WATCH) {
            due.changesNothing("skips(" + watch + ")", x -> x.skips(watch), -1);
        }
    }

    private static void skipsRefusesAWatchThatIsNotSet() {
        for (States state : States.values()) {
            for (int watch : state.watches(false)) {
                due.changesNothing("skips(" + watch + ")", state, x -> x.skips(watch), -2);
            }
        }
    }

    private static void skipsNeverFallBelow0() {
        WatchpointUnit x = new WatchpointUnit();
        x.set(6, 0, 1, 3);
        x.skip(6, 2);
        for (int want : new int[] {1, 0, 0, 0}) {
            x.load(0, 1);
            is("11: skips(6)", x.skips(6), want);
        }
        is("11: the others are hits", x.hits(6), 2);
    }

    // Promises 12 and 13

    private static void stopsCountPastTheKeptOnes() {
        WatchpointUnit x = new WatchpointUnit();
        x.set(0, 0, 1, 3);
        for (int i = 0; i <= 30; i++) {
            is("12: stops() after " + i, x.stops(), i);
            is("13: accesses() after " + i, x.accesses(), i);
            x.load(0, 1);
        }
    }

    private static void stopsCountAnAccessOnce() {
        WatchpointUnit x = new WatchpointUnit();
        for (int watch = 0; watch < 8; watch++) {
            x.set(watch, 0, 1, 3);
        }
        x.store(0, 1, 1);
        is("12: one stop at eight watches", x.stops(), 1);
        is("14: one kept", x.kept(), 1);
    }

    private static void stopsDoNotCountSkippedAccesses() {
        WatchpointUnit x = new WatchpointUnit();
        x.set(0, 0, 1, 3);
        x.set(1, 0, 1, 3);
        x.skip(0, 1);
        x.skip(1, 1);
        x.load(0, 1);
        is("12: skipped at both", x.stops(), 0);
        is("14: none kept", x.kept(), 0);
        is("15: no mask", x.stopMask(0), -1);
        is("13: an access", x.accesses(), 1);
    }

    private static void accessesCountWithoutWatches() {
        WatchpointUnit x = new WatchpointUnit();
        x.load(36, 4);
        is("13: a load of four bytes", x.accesses(), 1);
        x.store(36, 4, 0);
        is("13: a store of four bytes", x.accesses(), 2);
        x.sweep(36, 39);
        is("13: a sweep of two", x.accesses(), 4);
        is("12: none was a stop", x.stops(), 0);
    }

    private static void accessesDoNotCountRefusedCalls() {
        WatchpointUnit x = new WatchpointUnit();
        x.load(40, 1);
        x.load(0, 3);
        x.store(-1, 1, 1);
        x.store(0, 0, 1);
        x.sweep(0, 40);
        is("13: refused calls", x.accesses(), 0);
        x.set(0, 0, 1, 3);
        x.load(0, 1);
        is("17: the first access", x.stopNumber(0), 1);
    }

    // Promise 14 and the numbers of the kept stops

    /** Stop i, from 1, was the access FILLING + i: it wrote 100 + i over 1 + i at i - 1. */
    private static WatchpointUnit afterStops(int count) {
        WatchpointUnit x = new WatchpointUnit();
        for (int i = 1; i <= FILLING; i++) {
            x.store(i - 1, 1, 1 + i);
        }
        x.set(0, 0, 16, 3);
        x.set(1, 16, 16, 3);
        for (int i = 1; i <= count; i++) {
            x.store(i - 1, 1, 100 + i);
        }
        return x;
    }

    private static void keptIsAtMostEight() {
        for (int count = 0; count <= FILLING; count++) {
            is("14: kept() after " + count, afterStops(count).kept(), count < 8 ? count : 8);
        }
    }

    private static void everyNumberFrom0ToKeptIsAnswered() {
        for (int count = 0; count <= FILLING; count++) {
            WatchpointUnit x = afterStops(count);
            for (int stop = 0; stop < 8 && stop < count; stop++) {
                String which = "(" + stop + ") of " + count;
                int i = count - stop;
                is("15: stopMask" + which, x.stopMask(stop), i <= 16 ? 1 : 2);
                is("16: stopAddress" + which, x.stopAddress(stop), i - 1);
                is("17: stopNumber" + which, x.stopNumber(stop), FILLING + i);
                is("18: before" + which, x.before(stop), 1 + i);
                is("19: after" + which, x.after(stop), 100 + i);
            }
        }
    }

    private static void otherNumbersAreNoStops() {
        for (int count = 0; count <= FILLING; count++) {
            int kept = count < 8 ? count : 8;
            for (int stop : new int[] {-1, kept, kept + 1, 8, 9, -8, 256, MIN, MIN + 1, MAX}) {
                WatchpointUnit x = afterStops(count);
                String which = "(" + stop + ") of " + count;
                is("15: stopMask" + which, x.stopMask(stop), -1);
                is("16: stopAddress" + which, x.stopAddress(stop), -1);
                is("17: stopNumber" + which, x.stopNumber(stop), -1);
                is("18: before" + which, x.before(stop), 0);
                is("19: after" + which, x.after(stop), 0);
            }
        }
    }

    private static void theOldestIsDropped() {
        WatchpointUnit x = afterStops(8);
        is("17: the first is the oldest of eight", x.stopNumber(7), FILLING + 1);
        x.store(8, 1, 1);
        is("17: the second is the oldest now", x.stopNumber(7), FILLING + 2);
        is("17: the ninth is the latest", x.stopNumber(0), FILLING + 9);
    }

    private static void aDroppedStopIsNotAnswered() {
        WatchpointUnit x = afterStops(9);
        for (int stop = 0; stop < 8; stop++) {
            due.isTrue("17: " + stop + " is not the first", x.stopNumber(stop) != FILLING + 1);
        }
        is("17: none after the eight", x.stopNumber(8), -1);
    }

    // Promises 15 to 19

    private static void stopMaskOfEachWatch() {
        for (int watch = 0; watch < 8; watch++) {
            WatchpointUnit x = new WatchpointUnit();
            x.set(watch, 39, 1, 3);
            x.load(36, 4);
            is("15: watch " + watch + " alone", x.stopMask(0), 1 << watch);
        }
    }

    private static void stopMaskOfAllWatches() {
        WatchpointUnit x = new WatchpointUnit();
        for (int watch = 0; watch < 8; watch++) {
            x.set(watch, 39, 1, 3);
        }
        x.load(36, 4);
        is("15: all", x.stopMask(0), 255);
    }

    private static void stopMaskLeavesOutThoseThatSkip() {
        for (int watch = 0; watch < 8; watch++) {
            WatchpointUnit x = new WatchpointUnit();
            for (int other = 0; other < 8; other++) {
                x.set(other, 0, 1, 3);
            }
            x.skip(watch, 1);
            is("7: at seven", x.store(0, 1, 1), 7);
            is("15: without the one that skips", x.stopMask(0), 255 - (1 << watch));
            x.pause(watch, 1);
            is("7: at seven", x.store(0, 1, 1), 7);
            is("15: without the one that is paused", x.stopMask(0), 255 - (1 << watch));
        }
    }

    private static void stopAddressIsTheAccessesOwn() {
        WatchpointUnit x = new WatchpointUnit();
        x.set(0, 20, 1, 3);
        for (int address = 17; address <= 20; address++) {
            x.load(address, 4);
            is("16: the least accessed address", x.stopAddress(0), address);
        }
    }

    private static void stopAddressAtTheEndsOfTheMemory() {
        WatchpointUnit x = new WatchpointUnit();
        x.set(0, 0, 1, 3);
        x.set(1, 39, 1, 3);
        x.load(0, 1);
        is("16: at 0", x.stopAddress(0), 0);
        x.load(39, 1);
        is("16: at 39", x.stopAddress(0), 39);
        x.load(36, 4);
        is("16: at 36 .. 39", x.stopAddress(0), 36);
    }

    private static void stopNumberOfTheFirstAccess() {
        WatchpointUnit x = new WatchpointUnit();
        x.set(0, 0, 1, 3);
        x.load(0, 1);
        is("17: the first", x.stopNumber(0), 1);
    }

    private static void stopNumberCountsAllAccesses() {
        WatchpointUnit x = new WatchpointUnit();
        x.set(0, 0, 1, 2);
        x.load(0, 1);
        x.store(1, 1, 1);
        x.sweep(0, 39);
        x.store(0, 1, 1);
        is("17: after others that were no stops", x.stopNumber(0), 23);
    }

    private static void beforeIsReadAsByLoad() {
        WatchpointUnit x = new WatchpointUnit();
        x.store(0, 4, MIN + 0x80FF);
        x.set(0, 0, 4, 3);
        x.store(0, 4, -1);
        is("18: four bytes make an int", x.before(0), MIN + 0x80FF);
        x.store(0, 2, 0x8080);
        is("18: two bytes are not negative", x.before(0), 0xFFFF);
        x.store(0, 1, 0);
        is("18: one byte is not negative", x.before(0), 0x80);
        x.store(0, 1, 0);
        is("18: nought", x.before(0), 0);
    }

    private static void afterIsReadAsByLoad() {
        WatchpointUnit x = new WatchpointUnit();
        x.set(0, 0, 4, 3);
        for (int value : new int[] {-1, MIN, MAX, 0x8080, 0x80, 0xFFFFFF00, 0xFFFF0000, 0, 256}) {
            x.store(0, 4, value);
            is("19: four bytes make an int", x.after(0), value);
            x.store(0, 2, value);
            is("19: two bytes are not negative", x.after(0), value & 0xFFFF);
            x.store(0, 1, value);
            is("19: one byte is not negative", x.after(0), value & 0xFF);
        }
    }

    private static void beforeAndAfterOfAReadAreTheSame() {
        WatchpointUnit x = new WatchpointUnit();
        x.store(36, 4, 0x9ABCDEF0);
        x.set(0, 39, 1, 1);
        int[] want = {0x9ABCDEF0, 0x9ABC, 0x9A, 0x9A};
        x.load(36, 4);
        x.load(38, 2);
        x.load(39, 1);
        x.sweep(39, 39);
        for (int i = 0; i < 4; i++) {
            is("18: read " + i, x.before(3 - i), want[i]);
            is("19: read " + i, x.after(3 - i), want[i]);
        }
    }

    private static void beforeAndAfterStayAsTheyWere() {
        WatchpointUnit x = new WatchpointUnit();
        x.set(0, 0, 1, 2);
        x.store(0, 2, 0x0102);
        x.store(0, 2, 0x0304);
        x.clear(0);
        x.store(0, 4, -1);
        is("18: the latest", x.before(0), 0x0102);
        is("19: the latest", x.after(0), 0x0304);
        is("18: the one before", x.before(1), 0);
        is("19: the one before", x.after(1), 0x0102);
    }

    // Promise 20

    private static void watchedFromNoneToAll() {
        WatchpointUnit x = new WatchpointUnit();
        is("20: none", x.watched(), 0);
        for (int watch = 0; watch < 8; watch++) {
            x.set(watch, 5 * watch, 5, 1 + watch % 4);
            is("20: five more", x.watched(), 5 * (watch + 1));
        }
    }

    private static void watchedCountsSharedAddressesOnce() {
        for (int shared = 0; shared <= 16; shared++) {
            WatchpointUnit x = new WatchpointUnit();
            x.set(0, 0, 16, 1);
            x.set(7, 16 - shared, 16, 2);
            is("20: " + shared + " shared", x.watched(), 32 - shared);
        }
        WatchpointUnit x = new WatchpointUnit();
        for (int watch = 0; watch < 8; watch++) {
            x.set(watch, 3, 1, 3);
        }
        is("20: one shared by all", x.watched(), 1);
    }

    private static void watchedLeavesOutPausedWatches() {
        for (int watch = 0; watch < 8; watch++) {
            WatchpointUnit x = new WatchpointUnit();
            for (int other = 0; other < 8; other++) {
                x.set(other, 4 * other, 4, 3);
            }
            x.pause(watch, 1);
            is("20: one paused", x.watched(), 28);
            x.skip((watch + 1) % 8, 100);
            is("20: one that skips is watched", x.watched(), 28);
            x.pause(watch, 0);
            is("20: it goes on", x.watched(), 32);
        }
    }

    private static void watchedLeavesOutClearedWatches() {
        WatchpointUnit x = new WatchpointUnit();
        x.set(0, 0, 16, 3);
        x.set(1, 8, 16, 3);
        x.clear(0);
        is("20: the shared ones stay", x.watched(), 16);
        x.clear(1);
        is("20: none are left", x.watched(), 0);
    }

    private static void watchedAtTheEndsOfTheMemory() {
        WatchpointUnit x = new WatchpointUnit();
        x.set(0, 0, 1, 3);
        is("20: address 0", x.watched(), 1);
        x.set(1, 39, 1, 3);
        is("20: address 39", x.watched(), 2);
    }

    // Terms: "No question changes anything."

    private static void noQuestionChangesAnything() {
        for (States state : States.values()) {
            for (int number = -1; number <= 40; number++) {
                int n = number;
                unchangedBy("peek(" + n + ")", state, x -> x.peek(n));
                unchangedBy("hits(" + n + ")", state, x -> x.hits(n));
                unchangedBy("skips(" + n + ")", state, x -> x.skips(n));
                unchangedBy("stopMask(" + n + ")", state, x -> x.stopMask(n));
                unchangedBy("stopAddress(" + n + ")", state, x -> x.stopAddress(n));
                unchangedBy("stopNumber(" + n + ")", state, x -> x.stopNumber(n));
                unchangedBy("before(" + n + ")", state, x -> x.before(n));
                unchangedBy("after(" + n + ")", state, x -> x.after(n));
            }
            unchangedBy("stops()", state, x -> x.stops());
            unchangedBy("accesses()", state, x -> x.accesses());
            unchangedBy("kept()", state, x -> x.kept());
            unchangedBy("watched()", state, x -> x.watched());
        }
    }

    private static void unchangedBy(String name, States state, Due.Call question) {
        due.changesNothing(name, state, question, question.on(state.make()));
    }
}
