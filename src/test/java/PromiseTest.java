/** The promises one by one: ordinary inputs, the edges that the document names, wrong inputs. */
public final class PromiseTest {
    private static final int MIN = Integer.MIN_VALUE;
    private static final int MAX = Integer.MAX_VALUE;
    private static final Due due = new Due();

    public static void main(String[] args) {
        newObject();
        set();
        setAnew();
        setRefused();
        clear();
        pause();
        skip();
        load();
        loadRefused();
        store();
        storeRefused();
        kinds();
        rangeEdges();
        changeOnlyInRange();
        sweep();
        sweepRefused();
        peek();
        hits();
        skips();
        counts();
        kept();
        stopMask();
        stopAddressAndNumber();
        beforeAndAfter();
        keptStopsOutliveTheirWatches();
        watched();
        twoObjects();
        due.end();
    }

    private static void is(String call, long got, long want) {
        due.is(call, got, want);
    }

    private static void newObject() {
        WatchpointUnit x = new WatchpointUnit();
        for (int watch = 0; watch < 8; watch++) {
            is("1: hits(" + watch + ")", x.hits(watch), -2);
            is("1: skips(" + watch + ")", x.skips(watch), -2);
        }
        for (int address = 0; address < 40; address++) {
            is("1: peek(" + address + ")", x.peek(address), 0);
        }
        is("1: watched", x.watched(), 0);
        is("1: stops", x.stops(), 0);
        is("1: accesses", x.accesses(), 0);
        is("1: kept", x.kept(), 0);
        is("1: stopMask(0)", x.stopMask(0), -1);
        is("1: store", x.store(0, 4, -1), 0);
        is("1: sweep", x.sweep(0, 39), 0);
    }

    private static void set() {
        WatchpointUnit x = new WatchpointUnit();
        for (int watch = 0; watch < 8; watch++) {
            is("2: first set of " + watch, x.set(watch, watch, 1, WatchpointUnit.WRITE), 0);
        }
        for (int watch = 0; watch < 8; watch++) {
            is("2: store to " + watch, x.store(watch, 1, 1), 1);
            is("2: mask of " + watch, x.stopMask(0), 1 << watch);
        }
        is("2: set length 16", x.set(0, 24, 16, 3), 1);
        is("2: set length 1 at 39", x.set(1, 39, 1, 3), 1);
        is("2: set at 0", x.set(2, 0, 16, 3), 1);
        is("2: watched 0 .. 15 and 24 .. 39", x.watched(), 32);
    }

    private static void setAnew() {
        WatchpointUnit x = new WatchpointUnit();
        x.set(0, 0, 4, WatchpointUnit.WRITE);
        x.store(0, 1, 1);
        x.pause(0, 1);
        x.skip(0, 7);
        is("2: set anew", x.set(0, 10, 2, WatchpointUnit.READ), 1);
        is("2: hits anew", x.hits(0), 0);
        is("2: skips anew", x.skips(0), 0);
        is("2: not paused anew", x.pause(0, 0), 0);
        is("2: old range", x.store(0, 4, 9), 0);
        is("2: old kind", x.store(10, 2, 9), 0);
        is("2: new kind", x.load(10, 2), 9);
        is("2: new hits", x.hits(0), 1);
        is("2: cleared", x.clear(0), 1);
        is("2: set after clear", x.set(0, 0, 1, 1), 0);
        is("2: hits after clear and set", x.hits(0), 0);
        x.pause(0, 1);
        x.skip(0, 3);
        x.clear(0);
        is("2: set after clear of a paused one", x.set(0, 0, 1, 1), 0);
        is("2: not paused after clear and set", x.pause(0, 0), 0);
        is("2: skips after clear and set", x.skips(0), 0);
    }

    private static void setRefused() {
        WatchpointUnit x = new WatchpointUnit();
        int[] noWatch = {-1, 8, MIN, MAX};
        for (int watch : noWatch) {
            is("2: set(" + watch + ")", x.set(watch, 0, 1, 1), -1);
            is("2: all wrong, " + watch, x.set(watch, -1, 0, 0), -1);
        }
        int[] noLength = {0, 17, -1, MIN, MAX};
        for (int length : noLength) {
            is("2: length " + length, x.set(0, 0, length, 1), -2);
            is("2: length " + length + ", others wrong", x.set(0, -1, length, 0), -2);
        }
        int[] noFirst = {-1, 40, MIN, MAX, MAX - 15, 25};
        for (int first : noFirst) {
            is("2: first " + first, x.set(0, first, 16, 1), -3);
            is("2: first " + first + ", kind wrong", x.set(0, first, 16, 5), -3);
        }
        is("2: one byte beyond", x.set(0, 40, 1, 1), -3);
        int[] noKind = {0, 5, -1, MIN, MAX};
        for (int kind : noKind) {
            is("2: kind " + kind, x.set(0, 0, 1, kind), -4);
        }
        is("2: refused calls set nothing", x.hits(0), -2);
        x.set(0, 3, 2, WatchpointUnit.WRITE);
        x.store(3, 1, 1);
        x.skip(0, 5);
        x.pause(0, 1);
        x.set(0, 0, 1, 5);
        x.set(0, 39, 2, 1);
        x.set(0, 0, 0, 1);
        is("2: refused, hits stay", x.hits(0), 1);
        is("2: refused, skips stay", x.skips(0), 5);
        is("2: refused, paused stays", x.pause(0, 0), 1);
        is("2: refused, range stays", x.watched(), 2);
    }

    private static void clear() {
        WatchpointUnit x = new WatchpointUnit();
        is("3: clear(-1)", x.clear(-1), -1);
        is("3: clear(8)", x.clear(8), -1);
        is("3: clear(MIN)", x.clear(MIN), -1);
        is("3: clear(MAX)", x.clear(MAX), -1);
        is("3: not set", x.clear(0), -2);
        is("3: not set", x.clear(7), -2);
        x.set(7, 0, 4, WatchpointUnit.ACCESS);
        x.set(6, 0, 4, WatchpointUnit.ACCESS);
        x.load(0, 1);
        x.load(0, 1);
        is("3: answers hits", x.clear(7), 2);
        is("3: cleared twice", x.clear(7), -2);
        is("3: the other one stays", x.hits(6), 2);
        is("3: no stop at a cleared one", x.store(0, 1, 1), 1);
        is("3: mask without it", x.stopMask(0), 64);
        x.clear(6);
        is("3: nothing watched", x.watched(), 0);
    }

    private static void pause() {
        WatchpointUnit x = new WatchpointUnit();
        is("4: pause(-1)", x.pause(-1, 1), -1);
        is("4: pause(8)", x.pause(8, 0), -1);
        is("4: pause(MIN)", x.pause(MIN, 0), -1);
        is("4: pause(MAX)", x.pause(MAX, 0), -1);
        is("4: not set", x.pause(7, 1), -2);
        x.set(7, 5, 1, WatchpointUnit.ACCESS);
        is("4: a refused pause left no trace", x.pause(7, 0), 0);
        int[] flags = {1, -1, 2, 256, MIN, MAX};
        for (int flag : flags) {
            is("4: pause with " + flag, x.pause(7, flag), 0);
            is("4: paused, no stop", x.store(5, 1, flag), 0);
            is("4: go on", x.pause(7, 0), 1);
        }
        is("4: no hits while paused", x.hits(7), 0);
        is("4: stops again", x.store(5, 1, 1), 1);
        x.pause(7, 1);
        is("4: paused already", x.pause(7, 1), 1);
        is("4: still set", x.hits(7), 1);
        x.pause(7, 0);
        x.skip(7, 3);
        x.pause(7, 1);
        x.load(5, 1);
        is("4: paused spends no skip", x.skips(7), 3);
    }

    private static void skip() {
        WatchpointUnit x = new WatchpointUnit();
        is("5: skip(-1)", x.skip(-1, 1), -1);
        is("5: skip(8), skips wrong", x.skip(8, -1), -1);
        is("5: skip(MIN)", x.skip(MIN, 1), -1);
        is("5: skip(MAX)", x.skip(MAX, 1), -1);
        is("5: not set, skips wrong", x.skip(3, 101), -2);
        x.set(3, 0, 2, WatchpointUnit.WRITE);
        is("5: 101", x.skip(3, 101), -3);
        is("5: -1", x.skip(3, -1), -3);
        is("5: MIN", x.skip(3, MIN), -3);
        is("5: MAX", x.skip(3, MAX), -3);
        is("5: refused changes nothing", x.skips(3), 0);
        is("5: 100", x.skip(3, 100), 0);
        is("5: before it 100", x.skip(3, 2), 100);
        is("5: first skipped", x.store(0, 1, 1), 0);
        is("5: a load is no hit", x.load(0, 1), 1);
        is("5: one skip left", x.skips(3), 1);
        is("5: second skipped", x.store(0, 2, 2), 0);
        is("5: no stop so far", x.stops(), 0);
        is("5: nothing kept so far", x.kept(), 0);
        is("5: no hits so far", x.hits(3), 0);
        is("5: third stops", x.store(0, 1, 3), 1);
        is("5: hits", x.hits(3), 1);
        is("5: skips stay 0", x.skip(3, 0), 0);
        is("5: accesses", x.accesses(), 4);
    }

    private static void load() {
        WatchpointUnit x = new WatchpointUnit();
        x.store(0, 4, 0x84838281);
        is("6: one byte", x.load(0, 1), 0x81);
        is("6: one byte at 3", x.load(3, 1), 0x84);
        is("6: two bytes", x.load(0, 2), 0x8281);
        is("6: two bytes at an odd address", x.load(1, 2), 0x8382);
        is("6: four bytes are an int", x.load(0, 4), 0x84838281);
        is("6: four bytes at an odd address", x.load(1, 4), 0x00848382);
        is("6: each is one access", x.accesses(), 7);
        is("6: at the end, 1", x.load(39, 1), 0);
        is("6: at the end, 2", x.load(38, 2), 0);
        is("6: at the end, 4", x.load(36, 4), 0);
        is("6: they took place", x.accesses(), 10);
        x.set(0, 2, 1, WatchpointUnit.READ);
        is("6: answers the number at a stop", x.load(0, 4), 0x84838281);
        is("6: stopped", x.stops(), 1);
        is("6: the memory stays", x.peek(2), 0x83);
    }

    private static void loadRefused() {
        WatchpointUnit x = new WatchpointUnit();
        for (int address = 0; address < 40; address += 4) {
            x.store(address, 4, -1);
        }
        x.set(0, 24, 16, WatchpointUnit.ACCESS);
        x.set(1, 0, 16, WatchpointUnit.ACCESS);
        int[] noSize = {0, 3, 5, 8, -1, -4, MIN, MAX};
        for (int size : noSize) {
            is("6: size " + size, x.load(0, size), 0);
        }
        int[] noAddress = {-1, 40, 41, MIN, MAX, MAX - 1, MAX - 3};
        for (int address : noAddress) {
            is("6: load(" + address + ", 1)", x.load(address, 1), 0);
            is("6: load(" + address + ", 2)", x.load(address, 2), 0);
            is("6: load(" + address + ", 4)", x.load(address, 4), 0);
        }
        is("6: load(39, 2)", x.load(39, 2), 0);
        is("6: load(37, 4)", x.load(37, 4), 0);
        is("6: no access", x.accesses(), 10);
        is("6: no stop", x.stops(), 0);
    }

    private static void store() {
        WatchpointUnit x = new WatchpointUnit();
        is("7: store 1", x.store(5, 1, 0x1234), 0);
        is("7: low byte", x.peek(5), 0x34);
        is("7: next byte stays", x.peek(6), 0);
        is("7: store 2", x.store(7, 2, 0xABCDEF12), 0);
        is("7: lowest at the least address", x.peek(7), 0x12);
        is("7: then the next", x.peek(8), 0xEF);
        is("7: the one after stays", x.peek(9), 0);
        is("7: store 4", x.store(36, 4, 0x80706050), 0);
        is("7: byte 0", x.peek(36), 0x50);
        is("7: byte 1", x.peek(37), 0x60);
        is("7: byte 2", x.peek(38), 0x70);
        is("7: byte 3", x.peek(39), 0x80);
        is("7: negative value", x.store(0, 1, -1), 0);
        is("7: its byte", x.peek(0), 255);
        is("7: 256 leaves 0", x.store(0, 1, 256), 0);
        is("7: its byte", x.peek(0), 0);
        for (int watch = 0; watch < 8; watch++) {
            x.set(watch, watch, 16, WatchpointUnit.ACCESS);
        }
        is("7: at all eight", x.store(12, 1, 1), 8);
        is("7: at some", x.store(0, 2, 1), 2);
        is("7: at one", x.store(22, 4, 1), 1);
        is("7: at none", x.store(23, 4, 1), 0);
        is("7: accesses", x.accesses(), 9);
        is("7: stops", x.stops(), 3);
    }

    private static void storeRefused() {
        WatchpointUnit x = new WatchpointUnit();
        x.set(0, 0, 16, WatchpointUnit.ACCESS);
        x.set(1, 24, 16, WatchpointUnit.ACCESS);
        int[] noSize = {0, 3, 5, 8, -1, -4, MIN, MAX};
        for (int size : noSize) {
            is("7: size " + size, x.store(0, size, -1), -1);
            is("7: size " + size + ", address wrong", x.store(-1, size, -1), -1);
        }
        int[] noAddress = {-1, 40, 41, MIN, MAX, MAX - 1, MAX - 3};
        for (int address : noAddress) {
            is("7: store(" + address + ", 1)", x.store(address, 1, -1), -2);
            is("7: store(" + address + ", 2)", x.store(address, 2, -1), -2);
            is("7: store(" + address + ", 4)", x.store(address, 4, -1), -2);
        }
        is("7: store(39, 2)", x.store(39, 2, -1), -2);
        is("7: store(37, 4)", x.store(37, 4, -1), -2);
        is("7: no access", x.accesses(), 0);
        is("7: no hits", x.hits(0) + x.hits(1), 0);
        for (int address = 0; address < 40; address++) {
            is("7: nothing written at " + address, x.peek(address), 0);
        }
    }

    private static void kinds() {
        is("READ", WatchpointUnit.READ, 1);
        is("WRITE", WatchpointUnit.WRITE, 2);
        is("ACCESS", WatchpointUnit.ACCESS, 3);
        is("CHANGE", WatchpointUnit.CHANGE, 4);
        WatchpointUnit x = new WatchpointUnit();
        for (int kind = 1; kind <= 4; kind++) {
            x.set(kind, 10, 4, kind);
        }
        x.load(10, 4);
        is("terms: a read", x.stopMask(0), 2 + 8);
        is("terms: a write with a change", x.store(10, 4, 7), 3);
        is("terms: its mask", x.stopMask(0), 4 + 8 + 16);
        is("terms: a write of the same", x.store(10, 4, 7), 2);
        is("terms: its mask", x.stopMask(0), 4 + 8);
        is("terms: a sweep reads", x.sweep(10, 10), 1);
        is("terms: its mask", x.stopMask(0), 2 + 8);
    }

    private static void rangeEdges() {
        for (int size = 1; size <= 4; size *= 2) {
            for (int address = 0; address + size <= 40; address++) {
                WatchpointUnit x = new WatchpointUnit();
                x.set(0, 12, 5, WatchpointUnit.WRITE);
                x.set(1, 14, 1, WatchpointUnit.CHANGE);
                boolean wide = address <= 16 && address + size > 12;
                boolean narrow = address <= 14 && address + size > 14;
                int want = (wide ? 1 : 0) + (narrow ? 1 : 0);
                is("terms: store(" + address + ", " + size + ")", x.store(address, size, -1), want);
            }
        }
    }

    private static void changeOnlyInRange() {
        WatchpointUnit x = new WatchpointUnit();
        x.set(0, 11, 2, WatchpointUnit.CHANGE);
        is("terms: changes beside the range", x.store(10, 4, 0x01000001), 0);
        is("terms: changes the first in range", x.store(10, 4, 0x01000201), 1);
        is("terms: changes the last in range", x.store(10, 4, 0x01030201), 1);
        is("terms: the same again", x.store(10, 4, 0x01030201), 0);
        is("terms: the top byte, out of range", x.store(10, 4, 0x81030201), 0);
        is("terms: the top bit in range", x.store(9, 4, 0x83020100), 1);
        is("terms: high bits not written", x.store(11, 1, 0xFF02), 0);
        is("terms: hits", x.hits(0), 3);
        x.skip(0, 1);
        x.store(11, 1, 2);
        is("terms: no change spends no skip", x.skips(0), 1);
        x.store(11, 1, 3);
        is("terms: a change spends a skip", x.skips(0), 0);
    }

    private static void sweep() {
        WatchpointUnit x = new WatchpointUnit();
        x.set(0, 3, 4, WatchpointUnit.READ);
        x.set(1, 4, 1, WatchpointUnit.ACCESS);
        x.set(2, 0, 16, WatchpointUnit.WRITE);
        is("8: even addresses", x.sweep(0, 9), 2);
        is("8: five accesses", x.accesses(), 5);
        is("8: latest", x.stopAddress(0), 6);
        is("8: the one before it", x.stopAddress(1), 4);
        is("8: its mask", x.stopMask(1), 3);
        is("8: its number", x.stopNumber(1), 3);
        is("8: odd addresses", x.sweep(1, 8), 2);
        is("8: four accesses more", x.accesses(), 9);
        is("8: latest", x.stopAddress(0), 5);
        is("8: first = last", x.sweep(4, 4), 1);
        is("8: one access more", x.accesses(), 10);
        is("8: last not reached", x.sweep(3, 4), 1);
        is("8: one access more", x.accesses(), 11);
        is("8: last reached", x.sweep(4, 6), 2);
        is("8: two accesses more", x.accesses(), 13);
        is("8: all even", x.sweep(0, 39), 2);
        is("8: twenty more", x.accesses(), 33);
        is("8: all odd", x.sweep(1, 39), 2);
        is("8: twenty more", x.accesses(), 53);
        is("8: the last address", x.sweep(39, 39), 0);
        is("8: one more", x.accesses(), 54);
        x.clear(1);
        x.skip(0, 1);
        is("8: a skip within a sweep", x.sweep(2, 8), 1);
        is("8: it stopped at", x.stopAddress(0), 6);
        x.store(4, 4, -1);
        x.sweep(6, 6);
        is("8: one byte before", x.before(0), 255);
        is("8: one byte after", x.after(0), 255);
    }

    private static void sweepRefused() {
        WatchpointUnit x = new WatchpointUnit();
        x.set(0, 0, 16, WatchpointUnit.ACCESS);
        is("8: first -1", x.sweep(-1, 5), -1);
        is("8: first -2", x.sweep(-2, 5), -1);
        is("8: first MIN", x.sweep(MIN, 5), -1);
        is("8: last 40", x.sweep(0, 40), -1);
        is("8: last MAX", x.sweep(0, MAX), -1);
        is("8: first > last", x.sweep(1, 0), -1);
        is("8: first 40", x.sweep(40, 39), -1);
        is("8: first MAX", x.sweep(MAX, MAX), -1);
        is("8: last MIN", x.sweep(0, MIN), -1);
        is("8: no access", x.accesses(), 0);
        is("8: no hits", x.hits(0), 0);
    }

    private static void peek() {
        WatchpointUnit x = new WatchpointUnit();
        x.store(0, 1, 255);
        x.store(39, 1, 128);
        x.set(0, 0, 1, WatchpointUnit.ACCESS);
        is("9: peek(0)", x.peek(0), 255);
        is("9: peek(39)", x.peek(39), 128);
        is("9: peek(-1)", x.peek(-1), -1);
        is("9: peek(40)", x.peek(40), -1);
        is("9: peek(MIN)", x.peek(MIN), -1);
        is("9: peek(MAX)", x.peek(MAX), -1);
        is("9: no access", x.accesses(), 2);
        is("9: no hit", x.hits(0), 0);
    }

    private static void hits() {
        WatchpointUnit x = new WatchpointUnit();
        is("10: hits(-1)", x.hits(-1), -1);
        is("10: hits(8)", x.hits(8), -1);
        is("10: hits(MIN)", x.hits(MIN), -1);
        is("10: hits(MAX)", x.hits(MAX), -1);
        is("10: not set", x.hits(7), -2);
        x.set(7, 0, 16, WatchpointUnit.READ);
        is("10: none yet", x.hits(7), 0);
        x.sweep(0, 39);
        is("10: eight of a sweep", x.hits(7), 8);
        x.load(0, 4);
        is("10: one for an access of four bytes", x.hits(7), 9);
        is("10: asking changes nothing", x.hits(7), 9);
        x.pause(7, 1);
        is("10: a paused one has hits", x.hits(7), 9);
    }

    private static void skips() {
        WatchpointUnit x = new WatchpointUnit();
        is("11: skips(-1)", x.skips(-1), -1);
        is("11: skips(8)", x.skips(8), -1);
        is("11: skips(MIN)", x.skips(MIN), -1);
        is("11: skips(MAX)", x.skips(MAX), -1);
        is("11: not set", x.skips(0), -2);
        x.set(0, 0, 16, WatchpointUnit.READ);
        is("11: none yet", x.skips(0), 0);
        x.skip(0, 10);
        is("11: ten", x.skips(0), 10);
        x.sweep(0, 39);
        is("11: eight spent", x.skips(0), 2);
        is("11: asking changes nothing", x.skips(0), 2);
        x.sweep(0, 39);
        is("11: never below 0", x.skips(0), 0);
        is("11: the rest are hits", x.hits(0), 6);
        x.clear(0);
        is("11: cleared", x.skips(0), -2);
    }

    private static void counts() {
        WatchpointUnit x = new WatchpointUnit();
        x.load(0, 1);
        x.store(0, 1, 1);
        x.sweep(0, 4);
        is("13: accesses without watches", x.accesses(), 5);
        is("12: no stops without watches", x.stops(), 0);
        x.set(0, 0, 4, WatchpointUnit.ACCESS);
        x.set(1, 0, 4, WatchpointUnit.ACCESS);
        x.load(0, 4);
        is("12: one stop at two watches", x.stops(), 1);
        x.skip(0, 1);
        x.load(0, 4);
        is("12: one skips, one stops", x.stops(), 2);
        is("12: the mask of that", x.stopMask(0), 2);
        for (int i = 0; i < 20; i++) {
            x.store(0, 1, i);
        }
        is("12: more than are kept", x.stops(), 22);
        is("13: accesses", x.accesses(), 27);
        x.clear(0);
        x.clear(1);
        is("12: clearing keeps the count", x.stops(), 22);
    }

    private static void kept() {
        WatchpointUnit x = new WatchpointUnit();
        x.set(0, 0, 16, WatchpointUnit.WRITE);
        // With twenty stops all these calls on one object stay within the document's 512.
        for (int i = 1; i <= 20; i++) {
            x.store(i % 16, 1, i);
            int kept = i < 8 ? i : 8;
            is("14: kept after " + i, x.kept(), kept);
            for (int stop = 0; stop < kept; stop++) {
                is("16: stopAddress(" + stop + ")", x.stopAddress(stop), (i - stop) % 16);
                is("17: stopNumber(" + stop + ")", x.stopNumber(stop), i - stop);
                is("19: after(" + stop + ")", x.after(stop), i - stop);
            }
            is("16: beyond", x.stopAddress(kept), -1);
            is("17: beyond", x.stopNumber(kept), -1);
            is("19: beyond", x.after(kept), 0);
        }
    }

    private static void stopMask() {
        WatchpointUnit x = new WatchpointUnit();
        for (int watch = 0; watch < 8; watch++) {
            x.set(watch, 0, 1, WatchpointUnit.ACCESS);
        }
        x.load(0, 1);
        is("15: all", x.stopMask(0), 255);
        x.skip(0, 1);
        x.pause(3, 1);
        x.clear(7);
        x.load(0, 1);
        is("15: without the skipping, paused, cleared", x.stopMask(0), 255 - 1 - 8 - 128);
        is("15: the one before", x.stopMask(1), 255);
        noSuchStop(x, 2);
    }

    private static void noSuchStop(WatchpointUnit x, int kept) {
        int[] none = {-1, kept, 8, MIN, MAX};
        for (int stop : none) {
            is("15: stopMask(" + stop + ")", x.stopMask(stop), -1);
            is("16: stopAddress(" + stop + ")", x.stopAddress(stop), -1);
            is("17: stopNumber(" + stop + ")", x.stopNumber(stop), -1);
            is("18: before(" + stop + ")", x.before(stop), 0);
            is("19: after(" + stop + ")", x.after(stop), 0);
        }
    }

    private static void stopAddressAndNumber() {
        WatchpointUnit x = new WatchpointUnit();
        noSuchStop(x, 0);
        x.set(0, 12, 1, WatchpointUnit.ACCESS);
        x.load(0, 1);
        x.load(40, 1);
        x.store(9, 4, 1);
        is("16: the access's address, not the watch's", x.stopAddress(0), 9);
        is("17: refused calls have no number", x.stopNumber(0), 2);
        x.sweep(0, 39);
        is("16: in a sweep", x.stopAddress(0), 12);
        is("17: in a sweep", x.stopNumber(0), 9);
        noSuchStop(x, 2);
    }

    private static void beforeAndAfter() {
        WatchpointUnit x = new WatchpointUnit();
        x.store(0, 4, 0xFEDCBA98);
        x.set(0, 0, 1, WatchpointUnit.ACCESS);
        x.load(0, 4);
        is("18: load of four", x.before(0), 0xFEDCBA98);
        is("19: load of four", x.after(0), 0xFEDCBA98);
        x.load(0, 2);
        is("18: load of two", x.before(0), 0xBA98);
        is("19: load of two", x.after(0), 0xBA98);
        x.store(0, 2, -1);
        is("18: store of two", x.before(0), 0xBA98);
        is("19: store of two, not negative", x.after(0), 0xFFFF);
        x.store(0, 1, 0x1280);
        is("18: store of one", x.before(0), 0xFF);
        is("19: store of one, not negative", x.after(0), 0x80);
        x.store(0, 4, -5);
        is("18: store of four", x.before(0), 0xFEDCFF80);
        is("19: store of four", x.after(0), -5);
        is("18: an older one", x.before(1), 0xFF);
        is("19: an older one", x.after(2), 0xFFFF);
        x.clear(0);
        x.store(0, 4, 0);
        is("18: later writes leave it", x.before(0), 0xFEDCFF80);
        is("19: later writes leave it", x.after(0), -5);
    }

    private static void keptStopsOutliveTheirWatches() {
        WatchpointUnit x = new WatchpointUnit();
        x.set(5, 20, 2, WatchpointUnit.WRITE);
        x.store(20, 2, 513);
        x.set(5, 0, 1, WatchpointUnit.READ);
        x.clear(5);
        is("14: kept", x.kept(), 1);
        is("15: mask", x.stopMask(0), 32);
        is("16: address", x.stopAddress(0), 20);
        is("17: number", x.stopNumber(0), 1);
        is("19: after", x.after(0), 513);
    }

    private static void watched() {
        WatchpointUnit x = new WatchpointUnit();
        x.set(0, 0, 16, 1);
        is("20: one", x.watched(), 16);
        x.set(1, 8, 16, 2);
        is("20: overlap counts once", x.watched(), 24);
        x.set(2, 24, 16, 4);
        is("20: all", x.watched(), 40);
        x.pause(1, 1);
        is("20: one paused", x.watched(), 32);
        x.pause(2, -1);
        is("20: two paused", x.watched(), 16);
        x.pause(1, 0);
        is("20: one goes on", x.watched(), 24);
        x.clear(0);
        is("20: one cleared", x.watched(), 16);
        x.skip(1, 100);
        is("20: skips do not matter", x.watched(), 16);
        x.set(2, 39, 1, 3);
        is("20: set anew is not paused", x.watched(), 17);
        is("20: no access", x.accesses(), 0);
    }

    private static void twoObjects() {
        WatchpointUnit x = new WatchpointUnit();
        WatchpointUnit y = new WatchpointUnit();
        x.set(0, 0, 1, WatchpointUnit.ACCESS);
        x.store(0, 1, 9);
        is("1: the other's watch", y.hits(0), -2);
        is("1: the other's memory", y.peek(0), 0);
        is("1: the other's accesses", y.accesses(), 0);
        is("1: the other's stops", y.kept(), 0);
    }
}
