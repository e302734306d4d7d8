/** Watching ranges of a small memory while it is read and written. */
public final class WatchpointUnit {
    public static final int READ = 1;
    public static final int WRITE = 2;
    public static final int ACCESS = 3;
    public static final int CHANGE = 4;

    private static final int MEMORY_SIZE = 40;
    private static final int WATCH_COUNT = 8;
    private static final int LONGEST_RANGE = 16;
    private static final int MOST_SKIPS = 100;
    private static final int MOST_KEPT = 8;

    private static final int NO_SUCH_WATCH = -1;
    private static final int NOT_SET = -2;

    private final int[] memory = new int[MEMORY_SIZE];

    private final boolean[] watchIsSet = new boolean[WATCH_COUNT];
    private final boolean[] watchIsPaused = new boolean[WATCH_COUNT];
    private final int[] watchFirst = new int[WATCH_COUNT];
    private final int[] watchLast = new int[WATCH_COUNT];
    private final int[] watchKind = new int[WATCH_COUNT];
    private final int[] watchSkips = new int[WATCH_COUNT];
    private final int[] watchHits = new int[WATCH_COUNT];

    // The kept stops lie in a ring, so that a new one takes the place of the oldest.
    private final int[] keptMask = new int[MOST_KEPT];
    private final int[] keptAddress = new int[MOST_KEPT];
    private final int[] keptNumber = new int[MOST_KEPT];
    private final int[] keptBefore = new int[MOST_KEPT];
    private final int[] keptAfter = new int[MOST_KEPT];
    private int keptCount = 0;
    private int latestSlot = 0;

    private int stopCount = 0;
    private int accessCount = 0;

    public WatchpointUnit() {
    }

    public int set(int watch, int first, int length, int kind) {
        if (!isWatch(watch)) {
            return NO_SUCH_WATCH;
        }
        if (length < 1 || length > LONGEST_RANGE) {
            return -2;
        }
        if (!liesInMemory(first, length)) {
            return -3;
        }
        if (kind < READ || kind > CHANGE) {
            return -4;
        }
        int answer = watchIsSet[watch] ? 1 : 0;
        watchIsSet[watch] = true;
        watchIsPaused[watch] = false;
        watchFirst[watch] = first;
        watchLast[watch] = first + length - 1;
        watchKind[watch] = kind;
        watchSkips[watch] = 0;
        watchHits[watch] = 0;
        return answer;
    }

    public int clear(int watch) {
        int refusal = refusalOf(watch);
        if (refusal != 0) {
            return refusal;
        }
        watchIsSet[watch] = false;
        return watchHits[watch];
    }

    public int pause(int watch, int flag) {
        int refusal = refusalOf(watch);
        if (refusal != 0) {
            return refusal;
        }
        int answer = watchIsPaused[watch] ? 1 : 0;
        watchIsPaused[watch] = flag != 0;
        return answer;
    }

    public int skip(int watch, int skips) {
        int refusal = refusalOf(watch);
        if (refusal != 0) {
            return refusal;
        }
        if (skips < 0 || skips > MOST_SKIPS) {
            return -3;
        }
        int answer = watchSkips[watch];
        watchSkips[watch] = skips;
        return answer;
    }

    public int load(int address, int size) {
        if (!isAccessSize(size) || !liesInMemory(address, size)) {
            return 0;
        }
        int number = numberAt(address, size);
        finishAccess(address, size, false, number, number);
        return number;
    }

    public int store(int address, int size, int value) {
        if (!isAccessSize(size)) {
            return -1;
        }
        if (!liesInMemory(address, size)) {
            return -2;
        }
        int old = numberAt(address, size);
        putNumber(address, size, value);
        int now = numberAt(address, size);
        int mask = finishAccess(address, size, true, old, now);
        return watchesIn(mask);
    }

    public int sweep(int first, int last) {
        if (first < 0 || last >= MEMORY_SIZE || first > last) {
            return -1;
        }
        int answer = 0;
        for (int address = first; address <= last; address += 2) {
            int number = memory[address];
            int mask = finishAccess(address, 1, false, number, number);
            if (mask != 0) {
                answer++;
            }
        }
        return answer;
    }

    public int peek(int address) {
        return liesInMemory(address, 1) ? memory[address] : -1;
    }

    public int hits(int watch) {
        int refusal = refusalOf(watch);
        return refusal != 0 ? refusal : watchHits[watch];
    }

    public int skips(int watch) {
        int refusal = refusalOf(watch);
        return refusal != 0 ? refusal : watchSkips[watch];
    }

    public int stops() {
        return stopCount;
    }

    public int accesses() {
        return accessCount;
    }

    public int kept() {
        return keptCount;
    }

    public int stopMask(int stop) {
        int slot = slotOf(stop);
        return slot < 0 ? -1 : keptMask[slot];
    }

    public int stopAddress(int stop) {
        int slot = slotOf(stop);
        return slot < 0 ? -1 : keptAddress[slot];
    }

    public int stopNumber(int stop) {
        int slot = slotOf(stop);
        return slot < 0 ? -1 : keptNumber[slot];
    }

    public int before(int stop) {
        int slot = slotOf(stop);
        return slot < 0 ? 0 : keptBefore[slot];
    }

    public int after(int stop) {
        int slot = slotOf(stop);
        return slot < 0 ? 0 : keptAfter[slot];
    }

    public int watched() {
        int answer = 0;
        for (int address = 0; address < MEMORY_SIZE; address++) {
            if (isWatched(address)) {
                answer++;
            }
        }
        return answer;
    }

    private boolean isWatch(int watch) {
        return watch >= 0 && watch < WATCH_COUNT;
    }

    private int refusalOf(int watch) {
        if (!isWatch(watch)) {
            return NO_SUCH_WATCH;
        }
        return watchIsSet[watch] ? 0 : NOT_SET;
    }

    private boolean isAccessSize(int size) {
        return size == 1 || size == 2 || size == 4;
    }

    // The length is taken from the memory's size, since first + length could wrap around;
    // a length handed in is known to be in 1 .. 16.
    private boolean liesInMemory(int first, int length) {
        return first >= 0 && first <= MEMORY_SIZE - length;
    }

    private int numberAt(int address, int size) {
        int number = 0;
        for (int i = 0; i < size; i++) {
            number |= memory[address + i] << (8 * i);
        }
        return number;
    }

    private void putNumber(int address, int size, int value) {
        for (int i = 0; i < size; i++) {
            memory[address + i] = byteOf(value, i);
        }
    }

    private int byteOf(int number, int i) {
        return (number >>> (8 * i)) & 255;
    }

    /** Counts an access that has taken place and answers the mask of the watches it stops at. */
    private int finishAccess(int address, int size, boolean writes, int old, int now) {
        accessCount++;
        int mask = 0;
        for (int watch = 0; watch < WATCH_COUNT; watch++) {
            boolean hit = isHit(watch, address, size, writes, old, now);
            if (hit && stopsAt(watch)) {
                mask |= 1 << watch;
            }
        }
        if (mask != 0) {
            keepStop(mask, address, old, now);
        }
        return mask;
    }

    private boolean isHit(int watch, int address, int size, boolean writes, int old, int now) {
        if (!isAwake(watch)) {
            return false;
        }
        int from = greaterOf(address, watchFirst[watch]);
        int to = lesserOf(address + size - 1, watchLast[watch]);
        if (from > to) {
            return false;
        }
        switch (watchKind[watch]) {
            case READ:
                return !writes;
            case WRITE:
                return writes;
            case ACCESS:
                return true;
            default:
                // A read leaves every byte as it was, so only a write can differ here.
                return differs(old, now, from - address, to - address);
        }
    }

    private boolean isAwake(int watch) {
        return watchIsSet[watch] && !watchIsPaused[watch];
    }

    private boolean differs(int old, int now, int from, int to) {
        for (int i = from; i <= to; i++) {
            int oldByte = byteOf(old, i);
            int newByte = byteOf(now, i);
            if (oldByte != newByte) {
                return true;
            }
        }
        return false;
    }

    /** Spends one skip of a watch that was hit or, if it has none left, counts the hit. */
    private boolean stopsAt(int watch) {
        if (watchSkips[watch] > 0) {
            watchSkips[watch]--;
            return false;
        }
        watchHits[watch]++;
        return true;
    }

    private void keepStop(int mask, int address, int old, int now) {
        stopCount++;
        latestSlot = latestSlot + 1 < MOST_KEPT ? latestSlot + 1 : 0;
        if (keptCount < MOST_KEPT) {
            keptCount++;
        }
        keptMask[latestSlot] = mask;
        keptAddress[latestSlot] = address;
        keptNumber[latestSlot] = accessCount;
        keptBefore[latestSlot] = old;
        keptAfter[latestSlot] = now;
    }

    /** The place in the ring of a kept stop, or -1 if there is no such stop. */
    private int slotOf(int stop) {
        if (stop < 0 || stop >= keptCount) {
            return -1;
        }
        int slot = latestSlot - stop;
        return slot < 0 ? slot + MOST_KEPT : slot;
    }

    private int watchesIn(int mask) {
        int count = 0;
        for (int watch = 0; watch < WATCH_COUNT; watch++) {
            count += (mask >>> watch) & 1;
        }
        return count;
    }

    private boolean isWatched(int address) {
        for (int watch = 0; watch < WATCH_COUNT; watch++) {
            if (isAwake(watch) && address >= watchFirst[watch] && address <= watchLast[watch]) {
                return true;
            }
        }
        return false;
    }

    private int greaterOf(int a, int b) {
        return a > b ? a : b;
    }

    private int lesserOf(int a, int b) {
        return a < b ? a : b;
    }
}
