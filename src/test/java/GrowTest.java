/** Promises 6, 7, 22 to 27 and 31 to 34: pages, worked out by hand from the document. */
public final class GrowTest {
    public static void main(String[] args) {
        putAndCut();
        sameKeyAgain();
        keySplit();
        mergeWithTheGreater();
        mergeWithTheLesser();
        mergeThatSplits();
        mergeByPut();
        innerSplit();
        rootOfOneEntry();
        thinPages();
        lowAndHigh();
        refused();
        wrongArguments();
        Check.finish();
    }

    private static int[] entries(TimeIndex x, int page, int what) {
        int[] row = new int[x.page(page, 1)];
        for (int i = 0; i < row.length; i++) {
            row[i] = x.entry(page, i, what);
        }
        return row;
    }

    private static int[] all(TimeIndex x, int page) {
        return new int[] {x.page(page, 0), x.page(page, 1), x.page(page, 2), x.page(page, 3), x.page(page, 4)};
    }

    private static int[] held(TimeIndex x, int t) {
        return new int[] {x.held(t, 0), x.held(t, 1), x.held(t, 2), x.held(t, 3)};
    }

    private static int[] way(TimeIndex x, int key, int t) {
        int[] row = new int[x.deep(t)];
        for (int i = 0; i < row.length; i++) {
            row[i] = x.way(key, t, i);
        }
        Check.due("promise 27: no more on the way", x.way(key, t, row.length), -1);
        return row;
    }

    private static int[] room(TimeIndex x) {
        return new int[] {x.room(0), x.room(1), x.room(2), x.room(3), x.room(4), x.room(5)};
    }

    private static void putAndCut() {
        TimeIndex x = new TimeIndex();
        Check.due("promise 6: put(5, 7)", x.put(5, 7), 1);
        Check.due("promise 6: put(0, -1)", x.put(0, -1), 2);
        Check.due("promise 6: put(999, least)", x.put(999, Integer.MIN_VALUE), 3);
        Check.due("promise 6: put(5, 7) again", x.put(5, 7), 4);
        Check.due("promise 6: put(-1, 0)", x.put(-1, 0), -1);
        Check.due("promise 6: put(1000, 0)", x.put(1000, 0), -1);
        Check.due("promise 7: cut(5)", x.cut(5), 5);
        Check.due("promise 7: cut(5) again", x.cut(5), -1);
        Check.due("promise 7: cut(6)", x.cut(6), -1);
        Check.due("promise 7: cut(-1)", x.cut(-1), -1);
        Check.due("promise 7: cut(1000)", x.cut(1000), -1);
        Check.due("promises 6, 7: time", x.count(0), 5);
        Check.due("promise 33: KEYS as they came", entries(x, 0, 0), 5, 0, 999, 5);
        Check.due("promise 33: FROM", entries(x, 0, 1), 1, 2, 3, 4);
        Check.due("promise 33: TO", entries(x, 0, 2), 4, -2, -2, 5);
        Check.due("promise 33: values", entries(x, 0, 3), 7, -1, Integer.MIN_VALUE, 7);
        Check.due("promise 32: page 0", all(x, 0), 1, 4, 2, 0, -2);
    }

    /** A full ROOT in which one lives: REPLACED by one page, though the row is short. */
    private static void sameKeyAgain() {
        TimeIndex x = Check.told("do 8; put 5 i; end;");
        Check.due("promise 34: ahead", room(x), 1, 8, 0, 1, 0, 1000);
        Check.due("promise 6: the ninth", x.put(5, 80), 9);
        Check.due("promise 32: page 0", all(x, 0), 1, 8, 0, 0, 9);
        Check.due("promise 32: page 1", all(x, 1), 1, 1, 1, 9, -2);
        Check.due("promise 22: ROOT then", x.root(9), 1);
        Check.due("promise 22: ROOT ahead", x.root(8), 0);
        Check.due("promise 34: behind", room(x), 2, 9, 1, 2, 0, 1000);
        Check.due("promise 33: TO of the eighth", x.entry(0, 7, 2), 9);
        Check.due("cut in the ROOT", x.cut(5), 10);
        Check.due("a ROOT is not REPLACED by a CUT", x.room(0), 2);
        Check.due("promise 31: an empty ROOT", held(x, 10), 1, 0, 0, 7);
    }

    private static TimeIndex seven() {
        TimeIndex x = Check.told("page 6; do 6; put i*10 i; end;");
        Check.due("promise 6: 60", x.put(60, 6), 7);
        return x;
    }

    private static void keySplit() {
        TimeIndex x = seven();
        Check.due("promise 32: page 0", all(x, 0), 1, 6, 6, 0, 7);
        Check.due("promise 32: page 1", all(x, 1), 1, 3, 3, 7, -2);
        Check.due("promise 32: page 2", all(x, 2), 1, 4, 4, 7, -2);
        Check.due("promise 32: page 3", all(x, 3), 0, 2, 2, 7, -2);
        Check.due("promise 33: KEYS of the second", entries(x, 2, 0), 30, 40, 50, 60);
        Check.due("promise 33: FROM is copied", entries(x, 2, 1), 4, 5, 6, 7);
        Check.due("promise 33: bounds", entries(x, 3, 0), 0, 30);
        Check.due("promise 33: pages below", entries(x, 3, 3), 1, 2);
        Check.due("promise 33: FROM of bounds", entries(x, 3, 1), 7, 7);
        Check.due("promise 23: deep", x.deep(7), 2);
        Check.due("promise 23: deep ahead", x.deep(6), 1);
        Check.due("promise 24: leaf of 29", x.leaf(29, 7), 1);
        Check.due("promise 24: leaf of 30", x.leaf(30, 7), 2);
        Check.due("promise 24: leaf of 999", x.leaf(999, 7), 2);
        Check.due("promise 24: leaf ahead", x.leaf(30, 6), 0);
        Check.due("promise 27: way", way(x, 0, 7), 3, 1);
        Check.due("promise 34", room(x), 4, 15, 1, 2, 6, 2142);
    }

    private static void mergeWithTheGreater() {
        TimeIndex x = seven();
        x.cut(0);
        x.cut(10);
        Check.due("no merge while one lives", x.room(0), 4);
        Check.due("promise 31: ahead", held(x, 9), 2, 1, 7, 9);
        x.cut(20);
        Check.due("promise 32: page 1", all(x, 1), 1, 3, 0, 7, 10);
        Check.due("promise 32: page 2", all(x, 2), 1, 4, 4, 7, 10);
        Check.due("promise 32: page 3", all(x, 3), 0, 3, 1, 7, 10);
        Check.due("promise 32: page 4", all(x, 4), 1, 4, 4, 10, -2);
        Check.due("promise 33: bounds", entries(x, 3, 0), 0, 30, 0);
        Check.due("promise 33: FROM of bounds", entries(x, 3, 1), 7, 7, 10);
        Check.due("promise 33: TO of bounds", entries(x, 3, 2), 10, 10, -2);
        Check.due("promise 33: pages below", entries(x, 3, 3), 1, 2, 4);
        Check.due("promise 33: copies", entries(x, 4, 1), 4, 5, 6, 7);
        Check.due("promise 22: ROOT", x.root(10), 4);
        Check.due("promise 22: ROOT ahead", x.root(9), 3);
        Check.due("promise 23: deep", x.deep(10), 1);
        Check.due("promise 34", room(x), 5, 20, 4, 3, 10, 2000);
        Check.due("promise 31: ahead, with what pages have now", held(x, 9), 2, 1, 7, 8);
        x.cut(30);
        Check.due("what was copied stays as it is", x.entry(2, 0, 2), -2);
        Check.due("the copy ends", x.entry(4, 0, 2), 11);
        Check.due("promise 20: TO in one of the copies", x.version(30, 0, 1), 11);
        Check.due("promise 19: copies are one VERSION", x.versions(30), 1);
    }

    private static void mergeWithTheLesser() {
        TimeIndex x = seven();
        for (int key = 30; key <= 60; key += 10) {
            x.cut(key);
        }
        Check.due("promise 22: ROOT", x.root(11), 4);
        Check.due("promise 33: KEYS", entries(x, 4, 0), 0, 10, 20);
        Check.due("promise 33: the least of the bounds", entries(x, 3, 0), 0, 30, 0);
        Check.due("promise 32: page 1", all(x, 1), 1, 3, 3, 7, 11);
        Check.due("promise 32: page 2", all(x, 2), 1, 4, 0, 7, 11);
    }

    private static void mergeThatSplits() {
        TimeIndex x = seven();
        x.put(70, 7);
        x.put(80, 8);
        x.cut(20);
        x.cut(0);
        x.cut(10);
        Check.due("promise 33: first half", entries(x, 4, 0), 30, 40, 50);
        Check.due("promise 33: second half", entries(x, 5, 0), 60, 70, 80);
        Check.due("promise 33: bounds", entries(x, 3, 0), 0, 30, 0, 60);
        Check.due("promise 33: TO of bounds", entries(x, 3, 2), 12, 12, -2, -2);
        Check.due("promise 22: ROOT", x.root(12), 3);
        Check.due("promise 24: leaf of 0", x.leaf(0, 12), 4);
        Check.due("promise 24: leaf of 59", x.leaf(59, 12), 4);
        Check.due("promise 24: leaf of 60", x.leaf(60, 12), 5);
        Check.due("promise 37: pages made then", x.count(10), 2);
        Check.due("promise 25: reads as of 11", x.reads(0, 999, 11), 3);
    }

    /** A PUT into a full LEAF in which too little lives: the row is shorter than LOW. */
    private static void mergeByPut() {
        TimeIndex x = seven();
        x.put(0, 1);
        x.put(0, 2);
        x.put(0, 3);
        x.cut(10);
        x.cut(20);
        Check.due("nothing made yet", x.room(0), 4);
        Check.due("promise 6", x.put(0, 4), 13);
        Check.due("promise 33: first half", entries(x, 4, 0), 0, 30);
        Check.due("promise 33: second half", entries(x, 5, 0), 40, 50, 60);
        Check.due("promise 33: FROM", entries(x, 4, 1), 13, 4);
        Check.due("promise 33: values", entries(x, 4, 3), 4, 3);
        Check.due("promise 33: bounds", entries(x, 3, 0), 0, 30, 0, 40);
        Check.due("promise 32: page 1", all(x, 1), 1, 6, 0, 7, 13);
    }

    private static TimeIndex sixteen() {
        return Check.told("page 6; do 16; put i i; end;");
    }

    private static void innerSplit() {
        TimeIndex x = sixteen();
        Check.due("promise 33: bounds of the old ROOT", entries(x, 3, 0), 0, 3, 3, 6, 6, 9);
        Check.due("promise 33: their TO", entries(x, 3, 2), -2, 10, -2, 13, -2, 16);
        Check.due("promise 33: pages below", entries(x, 3, 3), 1, 2, 4, 5, 6, 7);
        Check.due("promise 32: page 3", all(x, 3), 0, 6, 3, 7, 16);
        Check.due("promise 33: first half", entries(x, 10, 3), 1, 4);
        Check.due("promise 33: FROM of bounds is copied", entries(x, 10, 1), 7, 10);
        Check.due("promise 33: second half", entries(x, 11, 3), 6, 8, 9);
        Check.due("promise 33: its bounds", entries(x, 11, 0), 6, 9, 12);
        Check.due("promise 33: its FROM", entries(x, 11, 1), 13, 16, 16);
        Check.due("promise 33: the new ROOT's bounds", entries(x, 12, 0), 0, 6);
        Check.due("promise 33: below it", entries(x, 12, 3), 10, 11);
        Check.due("promise 23: deep", x.deep(16), 3);
        Check.due("promise 23: deep ahead", x.deep(15), 2);
        Check.due("promise 27: way of 7", way(x, 7, 16), 12, 11, 6);
        Check.due("promise 27: way of 5", way(x, 5, 16), 12, 10, 4);
        Check.due("promise 27: way of 999", way(x, 999, 16), 12, 11, 9);
        Check.due("promise 27: way of 7 as of 13", way(x, 7, 13), 3, 6);
        Check.due("promise 25: reads of all", x.reads(0, 999, 16), 8);
        Check.due("promise 25: reads of 6 .. 8", x.reads(6, 8, 16), 3);
        Check.due("promise 25: reads of 5 .. 6", x.reads(5, 6, 16), 5);
        Check.due("promise 25: reads of 12 .. 12", x.reads(12, 12, 16), 3);
        Check.due("promise 25: reads of 11 .. 12", x.reads(11, 12, 16), 4);
        Check.due("promise 25: reads of 900 .. 999", x.reads(900, 999, 16), 3);
        Check.due("promise 25: reads of none", x.reads(8, 6, 16), 1);
        Check.due("promise 25: reads as of 13", x.reads(0, 999, 13), 5);
        Check.due("promise 25: reads as of 12", x.reads(3, 6, 12), 3);
        Check.due("promise 31: held", held(x, 16), 5, 3, 23, 25);
        Check.due("promise 37: pages made then", x.count(10), 5);
        Check.due("promise 34: ROOTS", x.room(3), 3);
        Check.due("promise 34: ended", x.room(2), 5);
    }

    private static void rootOfOneEntry() {
        TimeIndex x = Check.told("page 6; do 7; put i i; end; do 16; put 0 i; end;");
        Check.due("promise 33: the ROOT's pages", entries(x, 3, 3), 1, 2, 4, 5, 6, 7);
        x.cut(1);
        x.cut(2);
        Check.due("promise 31: ahead", x.held(25, 0), 2);
        x.cut(0);
        Check.due("promise 22: a ROOT of one ENTRY", x.root(26), 9);
        Check.due("promise 32: it is INNER", all(x, 9), 0, 1, 1, 26, -2);
        Check.due("promise 33: KEYS below", entries(x, 8, 0), 3, 4, 5, 6);
        Check.due("promise 33: its bound", entries(x, 9, 0), 0);
        Check.due("promise 23: deep", x.deep(26), 2);
        Check.due("promise 25: reads", x.reads(0, 999, 26), 2);
        for (int key = 3; key <= 6; key++) {
            x.cut(key);
        }
        Check.due("promise 22: the page below is the ROOT", x.root(30), 10);
        Check.due("promise 32: it is empty", all(x, 10), 1, 0, 0, 30, -2);
        Check.due("promise 32: the ROOT ahead ended", all(x, 9), 0, 2, 1, 26, 30);
        Check.due("promise 26: the ROOT is not thin", x.thin(30), 0);
        Check.due("promise 34: ROOTS", x.room(3), 4);
    }

    private static void thinPages() {
        TimeIndex x = sixteen();
        for (int key = 0; key < 6; key++) {
            x.cut(key);
        }
        Check.due("promise 33: pages below", entries(x, 10, 3), 1, 4, 13, 14);
        Check.due("promise 32: a page without ENTRIES", all(x, 14), 1, 0, 0, 22, -2);
        Check.due("promise 24: leaf", x.leaf(0, 22), 14);
        Check.due("promise 26: thin", x.thin(22), 1);
        Check.due("promise 26: thin ahead", x.thin(21), 0);
        x.put(4, 4);
        Check.due("promise 26: thin no more", x.thin(23), 0);
        Check.due("promise 26: thin then", x.thin(22), 1);
        Check.due("promise 33: it came into that page", x.entry(14, 0, 0), 4);
    }

    /** B 12: WEAK 3, LOW 4, HIGH 10. */
    private static void lowAndHigh() {
        TimeIndex x = Check.told("page 12; do 3; put i i; end; do 8; put i i; end; do 9; put 10+i i; end;");
        Check.due("promise 32: a row of 10 makes one page", all(x, 1), 1, 12, 12, 13, 16);
        Check.due("promise 22: a row of 13 makes two", x.root(16), 4);
        Check.due("promise 33: first half", entries(x, 2, 0), 0, 1, 2, 3, 4, 5);
        Check.due("promise 33: second half", entries(x, 3, 0), 6, 7, 10, 11, 12, 13, 14, 15, 16, 17, 18);
        Check.due("promise 33: bounds", entries(x, 4, 0), 0, 6);
        x.cut(0);
        x.cut(1);
        x.cut(2);
        Check.due("three live: no merge", x.room(0), 5);
        x.cut(3);
        Check.due("two live: a merge with 11", x.room(0), 7);
        Check.due("promise 33: first half", entries(x, 5, 0), 4, 5, 6, 7, 10, 11);
        Check.due("promise 33: second half", entries(x, 6, 0), 12, 13, 14, 15, 16, 17, 18);
        Check.due("promise 33: bounds", entries(x, 4, 0), 0, 6, 0, 12);
        x = Check.told("page 12; do 2; put i i; end; do 10; put i i; end; put 10 10;");
        Check.due("promise 33: first half of 11", entries(x, 1, 0), 0, 1, 2, 3, 4);
        Check.due("promise 33: second half of 11", entries(x, 2, 0), 5, 6, 7, 8, 9, 10);
        String twoLeaves = "page 12; do 3; put i i; end; do 8; put i i; end; do 5; put 10+i i; end; do 6; put 0 i; end;";
        x = Check.told(twoLeaves + "cut 1; cut 2; put 0 9;");
        Check.due("promise 33: a row of LOW stays alone", entries(x, 5, 0), 0, 3, 4, 5);
        Check.due("promise 33: bounds", entries(x, 4, 0), 0, 6, 0);
        Check.due("promise 22: ROOT", x.root(25), 4);
        x = Check.told(twoLeaves + "cut 1; cut 2; cut 3; put 0 9;");
        Check.due("promise 33: a shorter one does not", entries(x, 5, 0), 0, 4, 5, 6, 7, 10, 11, 12, 13, 14);
        Check.due("promise 22: ROOT", x.root(26), 5);
    }

    private static void refused() {
        TimeIndex x = Check.told("page 6; do 99; do 4; put 4*j+i 1; end; end;");
        int pages = x.room(0);
        int time = x.count(0);
        int living = x.count(1);
        Check.due("280 pages or more", pages >= 280, true);
        Check.due("promise 6: refused", x.put(0, 5), -1);
        Check.due("promise 6: refused, a new KEY", x.put(900, 5), -1);
        Check.due("promise 7: refused", x.cut(0), -1);
        Check.due("nothing happened to the time", x.count(0), time);
        Check.due("nothing happened to the KEYS", x.count(1), living);
        Check.due("nothing happened to the pages", x.room(0), pages);
        Check.due("nothing happened to the value", x.value(0, time), 1);
        Check.due("pages made at one time are ahead of it", x.count(10) > 0, true);
    }

    private static void wrongArguments() {
        TimeIndex x = seven();
        int[] times = {-1, 8, Integer.MIN_VALUE, Integer.MAX_VALUE};
        for (int t : times) {
            Check.due("promise 22: root", x.root(t), -1);
            Check.due("promise 23: deep", x.deep(t), -1);
            Check.due("promise 24: leaf", x.leaf(5, t), -1);
            Check.due("promise 25: reads", x.reads(0, 5, t), -1);
            Check.due("promise 26: thin", x.thin(t), -1);
            Check.due("promise 27: way", x.way(5, t, 0), -1);
            Check.due("promise 31: held", x.held(t, 0), -1);
        }
        int[] keys = {-1, 1000, Integer.MIN_VALUE, Integer.MAX_VALUE};
        for (int key : keys) {
            Check.due("promise 24: leaf", x.leaf(key, 7), -1);
            Check.due("promise 25: reads from", x.reads(key, 5, 7), -1);
            Check.due("promise 25: reads to", x.reads(5, key, 7), -1);
            Check.due("promise 27: way", x.way(key, 7, 0), -1);
        }
        Check.due("promise 27: i below 0", x.way(5, 7, -1), -1);
        Check.due("promise 27: i too great", x.way(5, 7, 2), -1);
        int[] others = {-1, 6, 99, Integer.MIN_VALUE, Integer.MAX_VALUE};
        for (int what : others) {
            Check.due("promise 31: what", x.held(7, what), -1);
            Check.due("promise 32: what", x.page(0, what), -1);
            Check.due("promise 33: what", x.entry(0, 0, what), -1000);
            Check.due("promise 34: what", x.room(what), -1);
            Check.due("promise 32: page", x.page(what, 1), -1);
            Check.due("promise 33: page", x.entry(what, 0, 0), -1000);
            Check.due("promise 33: i", x.entry(0, what, 0), -1000);
        }
        Check.due("promise 31: what 4", x.held(7, 4), -1);
        Check.due("promise 32: page 4", x.page(4, 0), -1);
        Check.due("promise 32: what 5", x.page(3, 5), -1);
        Check.due("promise 33: what 4", x.entry(3, 0, 4), -1000);
        Check.due("promise 33: i 2 of 2", x.entry(3, 2, 0), -1000);
    }
}
