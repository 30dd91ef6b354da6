/**
 * Promises 1, 6, 7 and 35 to 37, sentence by sentence: SLOTS that there are not or that hold nothing, calls that
 * are refused, and every number of count. What a wrong answer prints begins with the sentence's words.
 */
public final class SlotEdgesTest {
    private static final int[] NO_SLOTS = {-1, 3, 4, Integer.MIN_VALUE, Integer.MAX_VALUE};

    public static void main(String[] args) {
        newObject();
        noSuchSlot();
        nothingIsHeld();
        everySlotAlone();
        allButTheTape();
        staysThere();
        goesOnFromIt();
        asOneThatNeverLeft();
        heldAnew();
        fullAndBack();
        slotsBehindATextAndAFault();
        timeAndKeys();
        begunAndIdle();
        bytesOnTheTape();
        slotsThatHold();
        greatestAndLeast();
        pagesMadeNow();
        noSuchCounts();
        twoObjects();
        Check.finish();
    }

    private static int[] counts(TimeIndex x) {
        int[] all = new int[11];
        for (int what = 0; what <= 10; what++) {
            all[what] = x.count(what);
        }
        return all;
    }

    private static void newObject() {
        String s = "An empty index, B 8";
        TimeIndex x = new TimeIndex();
        Check.due(s, counts(x), 0, 0, 8, 2, 0, 0, 0, 0, -2, -2, 1);
        Check.due(s + " | room for", x.held(0, 3), 8);
        Check.due(s + " | NONE", TimeIndex.NONE, -1);
        Check.due(s + " | no FAULT", x.place(), -1);
    }

    private static void noSuchSlot() {
        TimeIndex x = new TimeIndex();
        x.put(1, 1);
        for (int slot : NO_SLOTS) {
            Check.due("hold: false: no such one | " + slot, x.hold(slot), false);
            Check.due("restore: false .. no such one | " + slot, x.restore(slot), false);
        }
        Check.due("hold: nothing is held", x.count(7), 0);
        for (int slot = 0; slot <= 2; slot++) {
            Check.due("hold: a SLOT (0 .. 2) | " + slot, x.hold(slot), true);
        }
        x.put(2, 2);
        for (int slot : NO_SLOTS) {
            Check.due("restore: false .. no such one, all being held | " + slot, x.restore(slot), false);
        }
        Check.due("restore: false, and nothing happens", x.count(0), 2);
    }

    private static void nothingIsHeld() {
        String s = "false, and nothing happens: .. nothing is held";
        TimeIndex x = new TimeIndex();
        x.put(1, 1);
        for (int slot = 0; slot <= 2; slot++) {
            Check.due(s + " | " + slot, x.restore(slot), false);
        }
        Check.due(s + " | time", x.count(0), 1);
        Check.due(s + " | KEY", x.has(1, 1), 1);
        x.hold(1);
        Check.due(s + " | beside one that does", x.restore(0), false);
        Check.due(s + " | beside one that does", x.restore(2), false);
        Check.due(s + " | that one", x.restore(1), true);
    }

    private static void everySlotAlone() {
        String s = "All .. is held in a SLOT (0 .. 2)";
        TimeIndex x = new TimeIndex();
        for (int slot = 0; slot <= 2; slot++) {
            x.put(slot, slot);
            x.hold(slot);
        }
        x.put(9, 9);
        for (int slot = 2; slot >= 0; slot--) {
            Check.due(s + " | restore " + slot, x.restore(slot), true);
            Check.due(s + " | its time", x.count(0), slot + 1);
            Check.due(s + " | its KEYS", x.count(1), slot + 1);
        }
        Check.due(s + " | a later one from an earlier", x.restore(2), true);
        Check.due(s + " | time of it", x.count(0), 3);
    }

    private static void allButTheTape() {
        String s = "All (not the tape) is held";
        TimeIndex x = Check.told("page 6; do 7; put i i; end; cut 50;");
        Check.feed(x, "put 1 ");
        x.hold(0);
        Check.feed(x, "2;");
        x.put(8, 8);
        x.restore(0);
        Check.due(s + " | the tape goes on", x.count(6), 8);
        Check.due(s + " | time", x.count(0), 7);
        Check.due(s + " | B", x.count(2), 6);
        Check.due(s + " | begun", x.count(4), 8);
        Check.due(s + " | idle", x.count(5), 1);
        Check.due(s + " | made now", x.count(10), 3);
        Check.due(s + " | ROOT", x.root(7), 3);
        Check.due(s + " | the tape is read", x.read(), 0);
        Check.due(s + " | as it is", x.value(1, 1), 2);
    }

    private static void staysThere() {
        String s = "It goes on from what a SLOT holds (that stays there)";
        TimeIndex x = new TimeIndex();
        x.put(5, 1);
        x.hold(1);
        for (int n = 0; n < 3; n++) {
            x.put(5, 100 + n);
            x.put(6 + n, n);
            x.cut(5);
            Check.due(s + " | again", x.restore(1), true);
            Check.due(s + " | time", x.count(0), 1);
            Check.due(s + " | value", x.value(5, 1), 1);
            Check.due(s + " | no TO", x.entry(0, 0, 2), -2);
            Check.due(s + " | one ENTRY", x.page(0, 1), 1);
            Check.due(s + " | one SLOT", x.count(7), 1);
        }
        Check.due(s + " | restore twice", x.restore(1), true);
    }

    /** From one SLOT on, two ways: each has its own pages. */
    private static void goesOnFromIt() {
        String s = "It goes on from what a SLOT holds";
        TimeIndex x = Check.told("page 6; do 6; put i i; end;");
        x.hold(0);
        Check.due(s + " | one way", x.put(100, 1), 7);
        Check.due(s + " | its split", x.room(0), 4);
        x.hold(1);
        x.restore(0);
        Check.due(s + " | pages are gone", x.room(0), 1);
        Check.due(s + " | ROOTS are gone", x.room(3), 1);
        Check.due(s + " | it does not END", x.page(0, 4), -2);
        Check.due(s + " | another way", x.cut(5), 7);
        Check.due(s + " | no split", x.room(0), 1);
        Check.due(s + " | PUT", x.put(200, 2), 8);
        Check.due(s + " | what lives then", entries(x), 0, 1, 2, 3, 4, 200);
        x.restore(1);
        Check.due(s + " | the first way again", x.has(100, 7), 1);
        Check.due(s + " | not the other's", x.versions(200), 0);
        Check.due(s + " | its ROOT", x.root(7), 3);
        Check.due(s + " | its time", x.count(0), 7);
    }

    private static void firstWay(TimeIndex x) {
        for (int n = 0; n < 14; n++) {
            x.put(n * 40, 100 + n);
        }
        x.cut(15);
        x.put(20, 77);
    }

    private static void secondWay(TimeIndex x) {
        x.cut(0);
        x.cut(5);
        x.cut(10);
        for (int n = 0; n < 12; n++) {
            x.put(999 - n, 200 + n);
        }
        x.put(20, 88);
    }

    private static TimeIndex eight() {
        return Check.told("page 6; do 8; put i*5 i; end;");
    }

    /** Everything that can be asked, of one that was held, left and restored, and of one that was not. */
    private static void asOneThatNeverLeft() {
        String s = "It goes on from what a SLOT holds: as one that never left it";
        TimeIndex x = eight();
        x.hold(0);
        firstWay(x);
        x.restore(0);
        Check.due(s + " | back at the first", look(x), look(eight()));
        x = eight();
        x.hold(0);
        firstWay(x);
        x.hold(1);
        x.restore(0);
        secondWay(x);
        x.restore(1);
        TimeIndex y = eight();
        firstWay(y);
        Check.due(s + " | the first way", look(x), look(y));
        x = eight();
        x.hold(0);
        firstWay(x);
        x.restore(0);
        secondWay(x);
        y = eight();
        secondWay(y);
        Check.due(s + " | the second way", look(x), look(y));
    }

    private static int[] look(TimeIndex x) {
        int[] all = new int[5 + 4 + 26 + 14 * 18 + 36];
        int n = 0;
        for (int what = 0; what <= 4; what++) {
            all[n++] = x.room(what);
        }
        for (int what : new int[] {0, 1, 8, 10}) {
            all[n++] = x.count(what);
        }
        for (int t = 0; t < 26; t++) {
            all[n++] = x.root(t);
        }
        for (int page = 0; page < 14; page++) {
            for (int what = 3; what <= 4; what++) {
                all[n++] = x.page(page, what);
            }
            for (int i = 0; i < 16; i++) {
                all[n++] = x.entry(page, i / 4 + 1, i % 4);
            }
        }
        for (int i = 0; i < 36; i++) {
            all[n++] = x.version(new int[] {0, 5, 20, 80, 120, 990}[i / 6], i / 3 % 2, i % 3);
        }
        return all;
    }

    private static int[] entries(TimeIndex x) {
        int[] keys = new int[x.count(1)];
        for (int i = 0; i < keys.length; i++) {
            keys[i] = x.nth(i, x.count(0));
        }
        return keys;
    }

    private static void heldAnew() {
        String s = "All .. is held in a SLOT: what it held is gone";
        TimeIndex x = Check.told("page 6; do 40; put i i; end;");
        x.hold(2);
        int pages = x.room(0);
        x.put(500, 5);
        x.hold(2);
        x.put(600, 6);
        x.restore(2);
        Check.due(s + " | the later", x.count(0), 41);
        Check.due(s + " | it lives", x.has(500, 41), 1);
        Check.due(s + " | pages", x.room(0) >= pages, true);
        x.hold(0);
        Check.read(x, "page 12; put 1 1;");
        x.hold(2);
        x.put(2, 2);
        x.restore(2);
        Check.due(s + " | a small one where a large was", x.room(1), 1);
        Check.due(s + " | its B", x.count(2), 12);
        Check.due(s + " | one VERSION", x.versions(500), 0);
    }

    private static void fullAndBack() {
        String s = "restore: from 280 pages back to fewer";
        TimeIndex x = Check.told("page 6; do 75; do 3; put 3*j+i 7; end; end;");
        x.hold(0);
        int time = x.count(0);
        for (int key = 500; key < 520; key++) {
            x.put(key, 1);
        }
        Check.due(s + " | refused", x.put(999, 1), -1);
        x.hold(1);
        x.restore(0);
        Check.due(s + " | not refused", x.put(999, 1), time + 1);
        x.restore(1);
        Check.due(s + " | refused as it was held", x.put(999, 1), -1);
        Check.due(s + " | cut, too", x.cut(0), -1);
    }

    private static void slotsBehindATextAndAFault() {
        String s = "SLOTS hold nothing";
        TimeIndex x = new TimeIndex();
        x.hold(0);
        x.hold(2);
        Check.read(x, "put");
        Check.due(s + " | but not behind a FAULT", x.count(7), 2);
        Check.due(s + " | restore behind a FAULT", x.restore(2), true);
        Check.read(x, "put 1 1;");
        Check.due(s + " | behind a text", x.count(7), 0);
        Check.due(s + " | restore", x.restore(0), false);
        Check.due(s + " | what was told stays", x.has(1, 1), 1);
        Check.due(s + " | hold anew", x.hold(0), true);
        Check.due(s + " | one", x.count(7), 1);
    }

    private static void timeAndKeys() {
        String s = "0 the time, 1 KEYS that live";
        TimeIndex x = new TimeIndex();
        x.put(3, 1);
        x.put(4, 1);
        x.put(3, 2);
        Check.due(s + " | time", x.count(0), 3);
        Check.due(s + " | KEYS", x.count(1), 2);
        x.cut(3);
        x.cut(3);
        x.put(-1, 0);
        Check.due(s + " | time behind refused calls", x.count(0), 4);
        Check.due(s + " | KEYS behind them", x.count(1), 1);
        x.cut(4);
        Check.due(s + " | none", x.count(1), 0);
        for (int b = 6; b <= 12; b++) {
            x = Check.told("page " + b + ";");
            Check.due("2 B", x.count(2), b);
            Check.due("3 WEAK", x.count(3), b < 8 ? 1 : b < 12 ? 2 : 3);
        }
    }

    private static void begunAndIdle() {
        String s = "4 PUTS and CUTS begun by the latest text, 5 of these that were refused or did nothing";
        TimeIndex x = Check.told("put 1 1; cut 2; cut 1; cut 1; do 0; put 1 1; end;");
        Check.due(s + " | begun", x.count(4), 4);
        Check.due(s + " | did nothing", x.count(5), 2);
        x.put(1, 1);
        x.put(1000, 1);
        x.cut(9);
        x.cut(1);
        Check.due(s + " | not by calls", x.count(4), 4);
        Check.due(s + " | nor idle ones", x.count(5), 2);
        Check.read(x, "put 1 1; @");
        Check.due(s + " | not by a text with a FAULT", x.count(4), 4);
        Check.read(x, "");
        Check.due(s + " | the latest", x.count(4), 0);
        Check.due(s + " | the latest's idle ones", x.count(5), 0);
        Check.read(x, "page 6; do 99; do 3; put 3*j+i 7; end; end; cut 0; cut 900;");
        Check.due(s + " | begun, though refused", x.count(4), 299);
        Check.due(s + " | refused, PUTS and CUTS", x.count(5), 299 - 229);
    }

    private static void bytesOnTheTape() {
        String s = "6 bytes on the tape";
        TimeIndex x = new TimeIndex();
        x.feed(0, 0, 0, 0, 0);
        Check.due(s + " | fed", x.count(6), 20);
        x.back(7);
        Check.due(s + " | back", x.count(6), 13);
        x.back(14);
        Check.due(s + " | not so many", x.count(6), 13);
        x.read();
        Check.due(s + " | read", x.count(6), 0);
    }

    private static void slotsThatHold() {
        String s = "7 SLOTS that hold something";
        TimeIndex x = new TimeIndex();
        int[] holds = {0, 0, 2, 3, 2, 1, -1};
        int[] due = {1, 1, 2, 2, 2, 3, 3};
        for (int n = 0; n < holds.length; n++) {
            x.hold(holds[n]);
            Check.due(s + " | behind hold " + holds[n], x.count(7), due[n]);
        }
        x.restore(0);
        Check.due(s + " | behind a restore", x.count(7), 3);
    }

    private static void greatestAndLeast() {
        String s = "8 the greatest KEY that lives (-2: none), 9 the least (-2: none)";
        TimeIndex x = new TimeIndex();
        int[] puts = {500, 499, 501, 0, 999};
        int[] greatest = {500, 500, 501, 501, 999};
        int[] least = {500, 499, 499, 0, 0};
        for (int n = 0; n < puts.length; n++) {
            x.put(puts[n], n);
            Check.due(s + " | greatest", x.count(8), greatest[n]);
            Check.due(s + " | least", x.count(9), least[n]);
        }
        x.cut(999);
        x.cut(0);
        Check.due(s + " | greatest left", x.count(8), 501);
        Check.due(s + " | least left", x.count(9), 499);
        x.cut(500);
        x.cut(501);
        x.cut(499);
        Check.due(s + " | none", x.count(8), -2);
        Check.due(s + " | none", x.count(9), -2);
    }

    private static void pagesMadeNow() {
        String s = "10 pages made at the time as it is";
        TimeIndex x = Check.told("page 6; do 15; put i i; end;");
        Check.due(s + " | none", x.count(10), 0);
        x.put(15, 15);
        Check.due(s + " | two LEAVES, two below a ROOT, and it", x.count(10), 5);
        x.cut(77);
        Check.due(s + " | the time is the same", x.count(10), 5);
        x.put(16, 16);
        Check.due(s + " | another time", x.count(10), 0);
        Check.due(s + " | at 0 the first", new TimeIndex().count(10), 1);
    }

    private static void noSuchCounts() {
        TimeIndex x = new TimeIndex();
        int[] others = {-1, 11, 12, Integer.MIN_VALUE, Integer.MAX_VALUE};
        for (int what : others) {
            Check.due("count: NONE for others | " + what, x.count(what), -1);
        }
    }

    private static void twoObjects() {
        String s = "each object is its own";
        TimeIndex x = new TimeIndex();
        TimeIndex y = new TimeIndex();
        x.put(1, 1);
        x.hold(0);
        x.feed(0, 0, 0, 0, 0);
        Check.due(s, counts(y), 0, 0, 8, 2, 0, 0, 0, 0, -2, -2, 1);
        Check.due(s + " | its SLOTS", y.restore(0), false);
    }
}
