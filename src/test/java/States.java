import java.util.ArrayList;
import java.util.List;

/** States from which the boundary tests begin; each call makes a new object in that state. */
enum States {
    /** Nothing has been called. */
    FRESH {
        @Override
        WatchpointUnit make() {
            return new WatchpointUnit();
        }
    },

    /** The even watches are set, 1 was and has been cleared, three stops are kept. */
    HALF {
        @Override
        WatchpointUnit make() {
            WatchpointUnit x = new WatchpointUnit();
            x.set(0, 0, 16, WatchpointUnit.READ);
            x.set(1, 0, 16, WatchpointUnit.WRITE);
            x.set(2, 24, 16, WatchpointUnit.WRITE);
            x.set(4, 0, 1, WatchpointUnit.ACCESS);
            x.set(6, 39, 1, WatchpointUnit.CHANGE);
            x.store(0, 4, 0x84838281);
            x.store(36, 4, 0x10203040);
            x.skip(1, 7);
            x.pause(1, 1);
            x.clear(1);
            x.skip(4, 2);
            x.load(0, 2);
            x.pause(6, 1);
            return x;
        }
    },

    /** All watches are set, of every kind, some paused or skipping; more than eight stops. */
    BUSY {
        @Override
        WatchpointUnit make() {
            WatchpointUnit x = new WatchpointUnit();
            for (int watch = 0; watch < 8; watch++) {
                x.set(watch, watch * 4, 1 + 2 * watch - watch / 6 * 4, 1 + watch % 4);
            }
            for (int address = 0; address < 40; address += 4) {
                x.store(address, 4, 0x81C2E3F4 + address * 0x01010101);
            }
            x.load(3, 2);
            x.load(9, 4);
            x.skip(2, 100);
            x.skip(3, 1);
            x.skip(6, 3);
            x.pause(5, 1);
            x.pause(6, -1);
            x.load(20, 4);
            x.store(13, 2, 5);
            return x;
        }
    };

    abstract WatchpointUnit make();

    /** The watches that are set in this state, or those that are not. */
    List<Integer> watches(boolean set) {
        List<Integer> found = new ArrayList<>();
        for (int watch = 0; watch < 8; watch++) {
            boolean isSet = this == BUSY || this == HALF && watch % 2 == 0;
            if (isSet == set) {
                found.add(watch);
            }
        }
        return found;
    }
}
