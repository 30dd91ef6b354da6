/** Promises 35 to 37, and 1: SLOTS, numbers of all, a new object. */
public final class HoldTest {
    public static void main(String[] args) {
        newObject();
        holdAndRestore();
        otherWaysOn();
        allIsHeld();
        tapeAndPlace();
        slots();
        counts();
        Check.finish();
    }

    private static void newObject() {
        TimeIndex x = new TimeIndex();
        int[] counts = new int[13];
        for (int what = -1; what <= 11; what++) {
            counts[what + 1] = x.count(what);
        }
        Check.due("promise 1: counts", counts, -1, 0, 0, 8, 2, 0, 0, 0, 0, -2, -2, 1, -1);
        Check.due("promise 1: pages", x.room(0), 1);
        Check.due("promise 1: ENTRIES", x.room(1), 0);
        Check.due("promise 1: ROOTS", x.room(3), 1);
        Check.due("promise 1: the ROOT", x.root(0), 0);
        Check.due("promise 1: a LEAF", x.page(0, 0), 1);
        Check.due("promise 1: room", x.held(0, 3), 8);
        Check.due("promise 1: no FAULT", x.place(), -1);
        Check.due("promise 36: nothing is held", x.restore(0), false);
    }

    private static void holdAndRestore() {
        TimeIndex x = new TimeIndex();
        x.put(1, 10);
        Check.due("promise 35: hold(0)", x.hold(0), true);
        x.put(2, 20);
        Check.due("promise 35: hold(2)", x.hold(2), true);
        x.put(1, 30);
        x.cut(2);
        Check.due("promise 36: restore(1)", x.restore(1), false);
        Check.due("promise 36: nothing happened", x.count(0), 4);
        Check.due("promise 36: restore(2)", x.restore(2), true);
        Check.due("promise 36: time", x.count(0), 2);
        Check.due("promise 36: value", x.value(1, 2), 10);
        Check.due("promise 36: times behind are not there", x.has(1, 3), -1);
        Check.due("promise 36: lives on", x.entry(0, 0, 2), -2);
        Check.due("promise 36: goes on", x.put(7, 70), 3);
        Check.due("promise 36: restore(0)", x.restore(0), true);
        Check.due("promise 36: time", x.count(0), 1);
        Check.due("promise 36: only one", x.many(0, 999, 1), 1);
        Check.due("promise 36: a later one is held, too", x.restore(2), true);
        Check.due("promise 36: as it was held", x.count(0), 2);
        Check.due("promise 36: 7 is not there", x.versions(7), 0);
        x.put(9, 90);
        Check.due("promise 35: held again", x.hold(2), true);
        x.cut(9);
        x.restore(2);
        Check.due("promise 36: the later one", x.has(9, 3), 1);
    }

    /** What came on one way on from a SLOT is not seen on another. */
    private static void otherWaysOn() {
        TimeIndex x = new TimeIndex();
        x.put(1, 10);
        x.hold(0);
        x.cut(1);
        x.put(2, 20);
        x.put(2, 21);
        x.hold(1);
        x.restore(0);
        x.put(5, 50);
        x.put(6, 60);
        x.cut(1);
        x.put(7, 70);
        Check.due("promise 36: four came on this way", x.room(1), 4);
        x.restore(1);
        int[] all = new int[12];
        for (int n = 0; n < 12; n++) {
            all[n] = x.entry(0, n / 4, n % 4);
        }
        Check.due("promise 36: the other way", all, 1, 1, 2, 10, 2, 3, 4, 20, 2, 4, -2, 21);
        Check.due("promise 36: VERSIONS on it", x.version(2, 0, 1), 4);
        Check.due("promise 36: none of the other's", x.versions(5), 0);
        Check.due("promise 36: one lives", x.count(1), 1);
    }

    /** Everything that can be asked is as it was, also of pages and ROOTS. */
    private static void allIsHeld() {
        TimeIndex x = Check.told("page 6; do 40; put i*7 i; end; do 9; cut i*14; end; cut 3;");
        int[] before = look(x);
        x.hold(1);
        for (int n = 0; n < 90; n++) {
            if (n % 3 == 0) {
                x.cut(n * 7);
            } else {
                x.put(n * 11, n);
            }
        }
        Check.due("promise 35: pages came", x.room(0) > before[0], true);
        x.restore(1);
        Check.due("promise 36: all", look(x), before);
        Check.read(x, "put 1");
        x.restore(1);
        Check.due("promise 36: all, behind a FAULT", look(x), before);
    }

    private static int[] look(TimeIndex x) {
        int[] all = new int[140];
        int n = 0;
        for (int what = 0; what <= 5; what++) {
            all[n++] = x.room(what);
        }
        for (int what = 0; what <= 10; what++) {
            all[n++] = what == 6 ? 0 : what == 7 ? 0 : x.count(what);
        }
        for (int page = 0; page < 12; page++) {
            for (int what = 1; what <= 4; what++) {
                all[n++] = x.page(page, what);
            }
            all[n++] = x.entry(page, 2, 2);
        }
        for (int t = 0; t < 60; t++) {
            all[n++] = x.root(t);
        }
        return all;
    }

    private static void tapeAndPlace() {
        TimeIndex x = new TimeIndex();
        Check.feed(x, "put 5 ");
        x.hold(0);
        Check.feed(x, "6;");
        x.put(1, 1);
        x.restore(0);
        Check.due("promise 35: the tape is not held", x.count(6), 8);
        Check.due("promise 4: it is read whole", x.read(), 0);
        Check.due("promise 4: told", x.value(5, 1), 6);
        x.hold(0);
        Check.due("promise 4: a FAULT", Check.read(x, "cut"), 1);
        x.restore(0);
        Check.due("promise 5: the latest read()'s, whatever is restored", x.place(), 3);
    }

    private static void slots() {
        TimeIndex x = new TimeIndex();
        int[] none = {-1, 3, Integer.MIN_VALUE, Integer.MAX_VALUE};
        for (int slot : none) {
            Check.due("promise 35: no such one", x.hold(slot), false);
            Check.due("promise 36: no such one", x.restore(slot), false);
        }
        Check.due("promise 37: no SLOT", x.count(7), 0);
        x.hold(1);
        Check.due("promise 37: one SLOT", x.count(7), 1);
        x.hold(1);
        Check.due("promise 37: the same", x.count(7), 1);
        x.hold(0);
        x.hold(2);
        Check.due("promise 37: three SLOTS", x.count(7), 3);
        x.restore(2);
        Check.due("promise 36: it stays there", x.count(7), 3);
        Check.due("promise 4: a FAULT", Check.read(x, "("), 1);
        Check.due("promise 4: SLOTS hold on", x.count(7), 3);
        Check.due("promise 4: an empty text", x.read(), 0);
        Check.due("promise 4: SLOTS hold nothing", x.count(7), 0);
        Check.due("promise 36: nothing is held", x.restore(1), false);
    }

    private static void counts() {
        TimeIndex x = Check.told("page 9; put 500 1; put 3 1; put 999 1; put 0 1; cut 1; cut 1; cut 999;");
        Check.due("promise 37: time", x.count(0), 5);
        Check.due("promise 37: KEYS", x.count(1), 3);
        Check.due("promise 37: B", x.count(2), 9);
        Check.due("promise 37: WEAK", x.count(3), 2);
        Check.due("promise 37: begun", x.count(4), 7);
        Check.due("promise 37: idle", x.count(5), 2);
        Check.due("promise 37: tape", x.count(6), 0);
        Check.due("promise 37: greatest", x.count(8), 500);
        Check.due("promise 37: least", x.count(9), 0);
        Check.due("promise 37: no page made now", x.count(10), 0);
        x.put(3, 9);
        Check.due("promise 37: a KEY once more", x.count(1), 3);
        Check.due("promise 37: a call is none of the text's", x.count(4), 7);
        x.cut(77);
        Check.due("promise 37: nor idle in it", x.count(5), 2);
        x.feed(1, 2, 3, 4, 5);
        Check.due("promise 37: tape", x.count(6), 20);
        x.cut(0);
        x.cut(500);
        x.cut(3);
        Check.due("promise 37: none is greatest", x.count(8), -2);
        Check.due("promise 37: none is least", x.count(9), -2);
        Check.due("promise 37: none lives", x.count(1), 0);
        int[] none = {-1, 11, Integer.MIN_VALUE, Integer.MAX_VALUE};
        for (int what : none) {
            Check.due("promise 37: others", x.count(what), -1);
        }
    }
}
