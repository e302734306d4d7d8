import java.util.ArrayList;
import java.util.List;

/**
 * The document told a second time, in another way than the program: it works on long numbers and
 * single bytes, keeps every stop there ever was, and holds a watch as an object or as nothing.
 */
final class Model {
    private static final class Watch {
        long first;
        long length;
        long kind;
        boolean paused;
        int skips;
        int hits;

        boolean covers(long address) {
            return first <= address && address < first + length;
        }
    }

    private static final class Stop {
        int mask;
        int address;
        int number;
        int before;
        int after;
    }

    private final byte[] memory = new byte[40];
    private final Watch[] watches = new Watch[8];
    private final List<Stop> allStops = new ArrayList<>();
    private int accessesMade = 0;

    private static boolean within(long number, long least, long most) {
        return least <= number && number <= most;
    }

    private int refused(int watch) {
        return !within(watch, 0, 7) ? -1 : watches[watch] == null ? -2 : 0;
    }

    int set(int watch, int first, int length, int kind) {
        if (!within(watch, 0, 7)) return -1;
        if (!within(length, 1, 16)) return -2;
        if (first < 0 || (long) first + length > 40) return -3;
        if (!within(kind, 1, 4)) return -4;
        int answer = watches[watch] == null ? 0 : 1;
        watches[watch] = new Watch();
        watches[watch].first = first;
        watches[watch].length = length;
        watches[watch].kind = kind;
        return answer;
    }

    int clear(int watch) {
        if (refused(watch) != 0) return refused(watch);
        int answer = watches[watch].hits;
        watches[watch] = null;
        return answer;
    }

    int pause(int watch, int flag) {
        if (refused(watch) != 0) return refused(watch);
        boolean was = watches[watch].paused;
        watches[watch].paused = flag != 0;
        return was ? 1 : 0;
    }

    int skip(int watch, int skips) {
        if (refused(watch) != 0) return refused(watch);
        if (!within(skips, 0, 100)) return -3;
        int was = watches[watch].skips;
        watches[watch].skips = skips;
        return was;
    }

    int load(int address, int size) {
        if (size != 1 && size != 2 && size != 4) return 0;
        if (address < 0 || (long) address + size > 40) return 0;
        access(address, size, false, 0);
        return number(memory, address, size);
    }

    int store(int address, int size, int value) {
        if (size != 1 && size != 2 && size != 4) return -1;
        if (address < 0 || (long) address + size > 40) return -2;
        return access(address, size, true, value);
    }

    int sweep(int first, int last) {
        if (first < 0 || last > 39 || first > last) return -1;
        int before = stops();
        for (int address = 0; address < 40; address++) {
            if (within(address, first, last) && (address - first) % 2 == 0) {
                access(address, 1, false, 0);
            }
        }
        return stops() - before;
    }

    private static int number(byte[] bytes, int address, int size) {
        long number = 0;
        for (int i = size - 1; i >= 0; i--) {
            number = number * 256 + Byte.toUnsignedInt(bytes[address + i]);
        }
        return (int) number;
    }

    private int access(int address, int size, boolean writes, int value) {
        byte[] old = memory.clone();
        if (writes) {
            for (int i = 0; i < size; i++) {
                memory[address + i] = (byte) (value >> 8 * i);
            }
        }
        accessesMade++;
        Stop stop = new Stop();
        int answer = 0;
        for (int watch = 0; watch < 8; watch++) {
            Watch w = watches[watch];
            if (w == null || w.paused || !hit(w, address, size, writes, old)) {
                continue;
            }
            if (w.skips > 0) {
                w.skips--;
            } else {
                w.hits++;
                stop.mask += (int) Math.pow(2, watch);
                answer++;
            }
        }
        if (answer > 0) {
            stop.address = address;
            stop.number = accessesMade;
            stop.before = number(old, address, size);
            stop.after = number(memory, address, size);
            allStops.add(stop);
        }
        return answer;
    }

    private boolean hit(Watch w, int address, int size, boolean writes, byte[] old) {
        boolean touched = false;
        boolean changed = false;
        for (int at = address; at < address + size; at++) {
            touched |= w.covers(at);
            changed |= w.covers(at) && old[at] != memory[at];
        }
        return touched && (w.kind == 1 && !writes || w.kind == 2 && writes || w.kind == 3
                || w.kind == 4 && writes && changed);
    }

    int peek(int address) {
        return within(address, 0, 39) ? Byte.toUnsignedInt(memory[address]) : -1;
    }

    int hits(int watch) {
        return refused(watch) != 0 ? refused(watch) : watches[watch].hits;
    }

    int skips(int watch) {
        return refused(watch) != 0 ? refused(watch) : watches[watch].skips;
    }

    int stops() {
        return allStops.size();
    }

    int accesses() {
        return accessesMade;
    }

    int kept() {
        return Math.min(8, allStops.size());
    }

    private Stop kept(int stop) {
        return within(stop, 0, kept() - 1L) ? allStops.get(allStops.size() - 1 - stop) : null;
    }

    int stopMask(int stop) {
        return kept(stop) == null ? -1 : kept(stop).mask;
    }

    int stopAddress(int stop) {
        return kept(stop) == null ? -1 : kept(stop).address;
    }

    int stopNumber(int stop) {
        return kept(stop) == null ? -1 : kept(stop).number;
    }

    int before(int stop) {
        return kept(stop) == null ? 0 : kept(stop).before;
    }

    int after(int stop) {
        return kept(stop) == null ? 0 : kept(stop).after;
    }

    int watched() {
        int answer = 0;
        for (int address = 0; address < 40; address++) {
            boolean covered = false;
            for (Watch w : watches) {
                covered |= w != null && !w.paused && w.covers(address);
            }
            answer += covered ? 1 : 0;
        }
        return answer;
    }

    // Two things that the class does not tell, for tests that must know what a run has come to.

    boolean isPaused(int watch) {
        return refused(watch) == 0 && watches[watch].paused;
    }

    /** How many set watches have a range with which so many bytes at an address overlap. */
    int rangesAt(int address, int size) {
        int answer = 0;
        for (Watch w : watches) {
            answer += w != null && w.first < (long) address + size && address < w.first + w.length ? 1 : 0;
        }
        return answer;
    }
}
