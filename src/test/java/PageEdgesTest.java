/**
 * Promises 6, 7, 22 to 27 and 31 to 34 with the terms of ==== II, sentence by sentence, for every B where B
 * counts. What a wrong answer prints begins with the sentence's words.
 */
public final class PageEdgesTest {
    private static final int[] NO_KEYS = {-1, 1000, Integer.MIN_VALUE, Integer.MAX_VALUE};

    public static void main(String[] args) {
        firstRoot();
        lifespans();
        orderOfEntries();
        leastBoundIs0();
        for (int b = 6; b <= 12; b++) {
            fullLeaf(b);
            highOfARow(b);
            weakLeaf(b);
            lowOfARow(b);
        }
        cutOfWhatDoesNotLive();
        rootIsNotReplacedByACut();
        siblingOfTheNextGreater();
        siblingOfTheNextLesser();
        noSibling();
        copiesStayAsTheyAre();
        pageAboveIsFull();
        innerRowOfHigh();
        weakInnerPage();
        oneEntryAlone();
        refusedAt280();
        notRefusedAt279();
        noSuchKeys();
        noSuchPages();
        noSuchWhats();
        entriesByTheTime();
        Check.finish();
    }

    private static int[] entries(TimeIndex x, int page, int what) {
        int[] row = new int[Math.max(0, x.page(page, 1))];
        for (int i = 0; i < row.length; i++) {
            row[i] = x.entry(page, i, what);
        }
        return row;
    }

    /** What promise 32 tells of a page: LEAF, ENTRIES, those without TO, made, ENDED. */
    private static int[] told(TimeIndex x, int page) {
        return new int[] {x.page(page, 0), x.page(page, 1), x.page(page, 2), x.page(page, 3), x.page(page, 4)};
    }

    private static int[] room(TimeIndex x) {
        return new int[] {x.room(0), x.room(1), x.room(2), x.room(3), x.room(4), x.room(5)};
    }

    private static int[] held(TimeIndex x, int t) {
        return new int[] {x.held(t, 0), x.held(t, 1), x.held(t, 2), x.held(t, 3)};
    }

    /** Two LEAVES of KEYS 0 .. B: pages 1 and 2 below page 3. */
    private static TimeIndex twoLeaves(int b) {
        TimeIndex x = Check.told("page " + b + "; do " + (b + 1) + "; put i i; end;");
        Check.due("two LEAVES below an INNER page", x.room(0), 4);
        return x;
    }

    private static void firstRoot() {
        String s = "The ROOT is a LEAF without ENTRIES at first (page 0, time 0)";
        TimeIndex x = new TimeIndex();
        Check.due(s, told(x, 0), 1, 0, 0, 0, -2);
        Check.due(s + " | room", room(x), 1, 0, 0, 1, 0, 0);
        Check.due(s + " | held", held(x, 0), 1, 0, 0, 8);
        Check.due(s + " | root", x.root(0), 0);
        Check.due(s + " | deep", x.deep(0), 1);
        Check.due(s + " | leaf", x.leaf(999, 0), 0);
        Check.due(s + " | reads", x.reads(0, 999, 0), 1);
        Check.due(s + " | thin, but the ROOT", x.thin(0), 0);
        Check.due(s + " | way", x.way(0, 0, 0), 0);
        Check.due(s + " | no more of the way", x.way(0, 0, 1), -1);
        Check.due(s + " | no ENTRY", x.entry(0, 0, 0), -1000);
        Check.due(s + " | pages made at the time as it is", x.count(10), 1);
    }

    private static void lifespans() {
        String s = "FROM and TO, the times between which it lives (FROM and later, ahead of TO; no TO: still)";
        TimeIndex x = new TimeIndex();
        x.put(1, 1);
        x.put(5, 50);
        x.put(1, 2);
        x.cut(5);
        x.put(1, 3);
        Check.due(s + " | ahead of FROM", x.has(5, 1), 0);
        Check.due(s + " | FROM", x.has(5, 2), 1);
        Check.due(s + " | later", x.has(5, 3), 1);
        Check.due(s + " | TO", x.has(5, 4), 0);
        Check.due(s + " | behind TO", x.has(5, 5), 0);
        Check.due(s + " | a PUT once more, ahead of it", x.value(1, 4), 2);
        Check.due(s + " | a PUT once more", x.value(1, 5), 3);
        Check.due(s + " | TO told", entries(x, 0, 2), 3, 4, 5, -2);
        Check.due(s + " | FROM told", entries(x, 0, 1), 1, 2, 3, 5);
    }

    private static void orderOfEntries() {
        String s = "ENTRIES in the order in which they came (copied ones, those of a new page at once, by KEY or bound)";
        TimeIndex x = Check.told("page 6; put 50 1; put 40 2; put 30 3; put 20 4; put 10 5; put 0 6;");
        Check.due(s + " | as they came", entries(x, 0, 0), 50, 40, 30, 20, 10, 0);
        x.put(25, 7);
        Check.due(s + " | the first new page", entries(x, 1, 0), 0, 10, 20);
        Check.due(s + " | the other", entries(x, 2, 0), 25, 30, 40, 50);
        Check.due(s + " | values go along", entries(x, 2, 3), 7, 3, 2, 1);
        Check.due(s + " | FROM goes along", entries(x, 2, 1), 7, 3, 2, 1);
        x.put(15, 8);
        x.put(5, 9);
        Check.due(s + " | then as they come", entries(x, 1, 0), 0, 10, 20, 15, 5);
    }

    private static void leastBoundIs0() {
        String s = "the greatest bound that is not above a KEY leads on to it (the least bound: 0)";
        TimeIndex x = Check.told("page 6; do 7; put 500+i*10 i; end;");
        Check.due(s + " | bounds", entries(x, 3, 0), 0, 530);
        Check.due(s + " | 0", x.leaf(0, 7), 1);
        Check.due(s + " | 529", x.leaf(529, 7), 1);
        Check.due(s + " | 530", x.leaf(530, 7), 2);
        Check.due(s + " | 999", x.leaf(999, 7), 2);
        x.put(0, 7);
        Check.due(s + " | a PUT of 0", x.entry(1, 3, 0), 0);
        x.put(529, 8);
        Check.due(s + " | a PUT of 529", x.entry(1, 4, 0), 529);
        x.put(999, 9);
        Check.due(s + " | a PUT of 999", x.entry(2, 4, 0), 999);
    }

    private static void fullLeaf(int b) {
        String s = "B " + b + ": if the LEAF has fewer than B ENTRIES, behind all; else the LEAF is REPLACED";
        TimeIndex x = Check.told("page " + b + "; do " + (b - 1) + "; put 5 i; end;");
        Check.due(s + " | room for one", x.held(b - 1, 3), 1);
        Check.due(s + " | the last one that fits", x.put(5, 70), b);
        Check.due(s + " | one page", x.room(0), 1);
        Check.due(s + " | full", x.held(b, 3), 0);
        Check.due(s + " | one more", x.put(5, 80), b + 1);
        Check.due(s + " | REPLACED by what lives in it and the new one", told(x, 1), 1, 1, 1, b + 1, -2);
        Check.due(s + " | the new one", x.entry(1, 0, 3), 80);
        Check.due(s + " | the one that lived has TO", x.entry(0, b - 1, 2), b + 1);
        Check.due(s + " | it ENDS", told(x, 0), 1, b, 0, 0, b + 1);
        Check.due(s + " | ROOT ahead", x.root(b), 0);
        Check.due(s + " | ROOT then", x.root(b + 1), 1);
        Check.due(s + " | all pages", room(x), 2, b + 1, 1, 2, 0, 1000);
    }

    /** A full ROOT in which as many are dead as leave a row of B - 2, and then of B - 1. */
    private static void highOfARow(int b) {
        String s = "B " + b + ": If the row is longer than HIGH, two new pages are made .. else one";
        TimeIndex x = Check.told("page " + b + "; do " + (b - 3) + "; put i i; end; do 3; put 0 i; end; put 500 1;");
        Check.due(s + " | HIGH: one", x.room(0), 2);
        Check.due(s + " | HIGH: its ENTRIES", x.page(1, 1), b - 2);
        Check.due(s + " | HIGH: the ROOT", x.root(b + 1), 1);
        x = Check.told("page " + b + "; do " + (b - 2) + "; put i i; end; do 2; put 0 i; end; put 500 1;");
        Check.due(s + " | HIGH and 1: two, and one above", x.room(0), 4);
        Check.due(s + " | the row's first half (rounded down)", x.page(1, 1), (b - 1) / 2);
        Check.due(s + " | then the other", x.page(2, 1), b - 1 - (b - 1) / 2);
        Check.due(s + " | a new INNER page, made behind them", told(x, 3), 0, 2, 2, b + 1, -2);
        Check.due(s + " | with an ENTRY of bound 0 and one", entries(x, 3, 0), 0, x.entry(2, 0, 0));
        Check.due(s + " | of the two pages", entries(x, 3, 3), 1, 2);
        Check.due(s + " | both FROM t", entries(x, 3, 1), b + 1, b + 1);
        Check.due(s + " | the ROOT", x.root(b + 1), 3);
        Check.due(s + " | deep", x.deep(b + 1), 2);
    }

    private static void weakLeaf(int b) {
        String s = "B " + b + ": A CUT: if fewer than WEAK live in the LEAF then .. it is REPLACED";
        int weak = b / 4;
        TimeIndex x = twoLeaves(b);
        Check.due(s + " | WEAK", x.count(3), weak);
        int many = x.page(1, 1);
        for (int key = 0; key < many - weak; key++) {
            x.cut(key);
        }
        Check.due(s + " | WEAK live", x.page(1, 2), weak);
        Check.due(s + " | nothing is made", x.room(0), 4);
        Check.due(s + " | nothing ENDS", x.page(1, 4), -2);
        Check.due(s + " | none is thin", x.thin(x.count(0)), 0);
        int t = x.cut(many - weak);
        Check.due(s + " | fewer", x.page(1, 2), weak - 1);
        Check.due(s + " | it ENDS", x.page(1, 4), t);
        Check.due(s + " | its SIBLING, too", x.page(2, 4), t);
        Check.due(s + " | pages are made", x.room(0) > 4, true);
        Check.due(s + " | by what lives in it", x.entry(4, 0, 0), many - weak + 1);
        Check.due(s + " | every KEY left", x.many(0, 999, t), b + 1 - (many - weak + 1));
        Check.due(s + " | every one is come to", x.has(b, t) + x.value(many, t), 1 + many);
        Check.due(s + " | none is thin then", x.thin(t), 0);
    }

    /** A full LEAF, not the ROOT, in which one KEY is PUT again and as many live as are asked for. */
    private static TimeIndex rowOf(int b, int living) {
        TimeIndex x = twoLeaves(b);
        int many = x.page(1, 1);
        for (int key = living; key < many; key++) {
            x.cut(key);
        }
        for (int n = many; n < b; n++) {
            x.put(0, n);
        }
        Check.due("nothing is made yet", x.room(0), 4);
        x.put(0, 77);
        return x;
    }

    private static void lowOfARow(int b) {
        String s = "B " + b + ": if they are fewer than LOW .. is p's SIBLING";
        int low = b / 4 + 1;
        TimeIndex x = rowOf(b, low);
        int t = x.count(0);
        Check.due(s + " | LOW: it ENDS", x.page(1, 4), t);
        Check.due(s + " | LOW: the other does not", x.page(2, 4), -2);
        Check.due(s + " | LOW: one new page", x.room(0), 5);
        Check.due(s + " | LOW: of the row", x.page(4, 1), low);
        Check.due(s + " | LOW: its bound above", x.entry(3, 2, 0), 0);
        x = rowOf(b, low - 1);
        t = x.count(0);
        int whole = low - 1 + x.page(2, 1);
        Check.due(s + " | fewer: it ENDS", x.page(1, 4), t);
        Check.due(s + " | fewer: REPLACED together", x.page(2, 4), t);
        Check.due(s + " | fewer: what lives in it comes to the row",
                x.page(4, 1), whole > b - 2 ? whole / 2 : whole);
        Check.due(s + " | fewer: the new one is in the row", x.entry(4, 0, 3), 77);
        Check.due(s + " | fewer: ENTRIES have TO t", new int[] {x.entry(3, 0, 2), x.entry(3, 1, 2)}, t, t);
        Check.due(s + " | fewer: the least of their bounds", x.entry(3, 2, 0), 0);
    }

    private static void cutOfWhatDoesNotLive() {
        String s = "CUT of one that lives (of one that does not: nothing happens)";
        TimeIndex x = new TimeIndex();
        Check.due(s + " | never", x.cut(5), -1);
        x.put(5, 5);
        Check.due(s + " | it lives", x.cut(5), 2);
        Check.due(s + " | no more", x.cut(5), -1);
        Check.due(s + " | no time", x.count(0), 2);
        Check.due(s + " | TO stays", x.entry(0, 0, 2), 2);
        Check.due(s + " | no ENTRY", x.room(1), 1);
        Check.due(s + " | the next time", x.put(5, 6), 3);
    }

    private static void rootIsNotReplacedByACut() {
        String s = "A CUT: .. and it is not the ROOT";
        TimeIndex x = Check.told("page 12; do 12; put i i; end; do 12; cut i; end;");
        Check.due(s + " | an empty ROOT", told(x, 0), 1, 12, 0, 0, -2);
        Check.due(s + " | it stays the ROOT", x.root(24), 0);
        Check.due(s + " | a PUT into it", x.put(3, 3), 25);
        Check.due(s + " | a row of one, fewer than LOW, of the ROOT", told(x, 1), 1, 1, 1, 25, -2);
        Check.due(s + " | the ROOT then", x.root(25), 1);
    }

    /** LEAVES {0 1 2}, {3 4 5}, {6 7 8 9} below page 3: the middle one goes, and takes the greater along. */
    private static void siblingOfTheNextGreater() {
        String s = "the page of the next greater bound there .. is p's SIBLING";
        TimeIndex x = Check.told("page 6; do 10; put i i; end;");
        Check.due(s + " | ahead", entries(x, 3, 3), 1, 2, 4, 5);
        x.cut(3);
        x.cut(4);
        x.cut(5);
        Check.due(s + " | p", x.page(4, 4), 13);
        Check.due(s + " | the greater", x.page(5, 4), 13);
        Check.due(s + " | the lesser stays", x.page(1, 4), -2);
        Check.due(s + " | one page of both", entries(x, 6, 0), 6, 7, 8, 9);
        Check.due(s + " | the least of their bounds", entries(x, 3, 0), 0, 3, 3, 6, 3);
        Check.due(s + " | TO", entries(x, 3, 2), -2, 10, 13, 13, -2);
        Check.due(s + " | FROM", entries(x, 3, 1), 7, 7, 10, 10, 13);
        Check.due(s + " | 2 leads to the lesser", x.leaf(2, 13), 1);
        Check.due(s + " | 3 leads to the new one", x.leaf(3, 13), 6);
        Check.due(s + " | what was led otherwise", x.leaf(6, 12), 5);
    }

    private static void siblingOfTheNextLesser() {
        String s = "without one that of the next lesser";
        TimeIndex x = Check.told("page 6; do 10; put i i; end; do 4; cut 6+i; end;");
        Check.due(s + " | p", x.page(5, 4), 14);
        Check.due(s + " | the next lesser", x.page(4, 4), 14);
        Check.due(s + " | the least stays", x.page(1, 4), -2);
        Check.due(s + " | one page of both", entries(x, 6, 0), 3, 4, 5);
        Check.due(s + " | the least of their bounds", entries(x, 3, 0), 0, 3, 3, 6, 3);
        Check.due(s + " | 999 leads to it", x.leaf(999, 14), 6);
    }

    private static void noSibling() {
        String s = "and other ENTRIES live in the page above";
        TimeIndex x = Check.told("page 6; do 16; put i i; end; do 5; cut i; end;");
        Check.due(s + " | one alone", entries(x, 10, 2), 19, 19, -2);
        Check.due(s + " | what is in it", entries(x, 13, 0), 3, 4, 5);
        x.cut(5);
        Check.due(s + " | none: a page of no ENTRY", told(x, 14), 1, 0, 0, 22, -2);
        Check.due(s + " | the page beside, below another, stays", x.page(6, 4), -2);
        Check.due(s + " | its bound", entries(x, 10, 0), 0, 3, 0, 0);
        Check.due(s + " | it is thin", x.thin(22), 1);
    }

    private static void copiesStayAsTheyAre() {
        String s = "ENTRIES are copied as they are (FROM, too); those in p and SIBLING stay as they are";
        TimeIndex x = twoLeaves(6);
        Check.due(s + " | without TO in a page that ENDED", entries(x, 0, 2), -2, -2, -2, -2, -2, -2);
        x.cut(0);
        x.put(5, 55);
        Check.due(s + " | later on, too", entries(x, 0, 2), -2, -2, -2, -2, -2, -2);
        Check.due(s + " | the copy has TO", x.entry(1, 0, 2), 8);
        Check.due(s + " | those two pages END", x.page(0, 4), 7);
        Check.due("copies (in a page made later than their FROM)", x.room(4), 6);
        Check.due("TO (in one of its copies)", x.version(0, 0, 1), 8);
        Check.due("one for each time at which an ENTRY of it began", x.versions(0), 1);
        Check.due("2 of these without TO", x.page(0, 2), 6);
        Check.due("living as of then", x.held(6, 2), 6);
    }

    /** B 8: at 29 the page above has 6 ENTRIES and gets two, at 33 it has 8. */
    private static void pageAboveIsFull() {
        String s = "if with them q has no more than B ENTRIES they come behind all; else q is REPLACED";
        TimeIndex x = Check.told("page 8; do 29; put i i; end;");
        Check.due(s + " | B ENTRIES", told(x, 12), 0, 8, 7, 25, -2);
        Check.due(s + " | behind all", entries(x, 12, 0), 0, 4, 8, 12, 16, 20, 20, 24);
        x = Check.told("page 8; do 33; put i i; end;");
        Check.due(s + " | more", told(x, 12), 0, 8, 6, 25, 33);
        Check.due(s + " | by what lives in it", entries(x, 17, 3), 1, 4, 6, 8);
        Check.due(s + " | and these", entries(x, 18, 3), 10, 13, 15, 16);
        Check.due(s + " | FROM", entries(x, 18, 1), 25, 29, 33, 33);
        Check.due(s + " | above both", entries(x, 19, 0), 0, 16);
        Check.due(s + " | ROOTS", x.room(3), 4);
        Check.due(s + " | deep", x.deep(33), 3);
        Check.due(s + " | deep ahead", x.deep(32), 2);
    }

    private static void innerRowOfHigh() {
        String s = "If the row is longer than HIGH (of bounds)";
        TimeIndex x = Check.told("page 8; do 25; put i i; end;");
        Check.due(s + " | a row of HIGH: one page", told(x, 12), 0, 6, 6, 25, -2);
        Check.due(s + " | it is the ROOT", x.root(25), 12);
        Check.due(s + " | the one ahead ENDS", told(x, 3), 0, 8, 4, 9, 25);
        Check.due(s + " | made behind the LEAVES", x.count(10), 3);
        Check.due(s + " | deep as ahead", x.deep(25), 2);
    }

    private static void weakInnerPage() {
        String s = "q not the ROOT, and fewer than WEAK live in it: q is REPLACED by what lives in it";
        TimeIndex x = Check.told("page 8; do 33; put i i; end; do 10; cut i; end;");
        Check.due(s + " | WEAK live", told(x, 17), 0, 6, 2, 33, -2);
        Check.due(s + " | none is thin", x.thin(43), 0);
        x.cut(10);
        Check.due(s + " | fewer", told(x, 17), 0, 7, 1, 33, 44);
        Check.due(s + " | with the next greater", told(x, 18), 0, 4, 4, 33, 44);
        Check.due(s + " | one page of both", entries(x, 23, 0), 0, 16, 20, 24, 28);
        Check.due(s + " | pages below", entries(x, 23, 3), 22, 10, 13, 15, 16);
        Check.due(s + " | FROM", entries(x, 23, 1), 44, 25, 29, 33, 33);
        Check.due(s + " | q the ROOT, and one ENTRY alone lives in it: q ENDS", told(x, 19), 0, 3, 1, 33, 44);
        Check.due(s + " | the page of that ENTRY is the ROOT", x.root(44), 23);
        Check.due(s + " | deep", x.deep(44), 2);
        x = Check.told("page 8; do 33; put i i; end; do 12; cut 32-i; end;");
        Check.due(s + " | fewer, at the other end", told(x, 18), 0, 7, 1, 33, 45);
        Check.due(s + " | with the next lesser", told(x, 17), 0, 4, 4, 33, 45);
        Check.due(s + " | one page of both", entries(x, 23, 0), 0, 4, 8, 12, 16);
        Check.due(s + " | the least of their bounds", entries(x, 19, 0), 0, 16, 0);
    }

    /**
     * B 6. At 79 the ROOT, page 12, is full: it is REPLACED by a row of one, page 39. At 94 the one page below
     * that is REPLACED by a row of one, page 45, and at 97 a LEAF is the ROOT.
     */
    private static void oneEntryAlone() {
        String s = "one ENTRY alone lives in it: q ENDS at t, the page of that ENTRY is the ROOT from t on "
                + "(though it be INNER with one ENTRY itself)";
        TimeIndex x = Check.told("page 6; do 16; put i i; end; do 48; put 12 i; end; do 3; cut i; end; "
                + "do 6; cut 6+i; end; do 12; put 12 i; end; cut 3; cut 4; cut 5; do 12; put 12 i; end;");
        Check.due(s + " | time", x.count(0), 100);
        Check.due(s + " | a full ROOT is REPLACED", told(x, 12), 0, 6, 0, 16, 79);
        Check.due(s + " | by a row of one", x.root(79), 39);
        Check.due(s + " | deep at 79", x.deep(79), 3);
        Check.due(s + " | the pages merged then", new int[] {x.page(10, 4), x.page(32, 4)}, 79, 79);
        Check.due(s + " | one of both", x.entry(39, 0, 3), 38);
        Check.due(s + " | at 94 q ENDS", told(x, 39), 0, 2, 1, 79, 94);
        Check.due(s + " | the page of that ENTRY", x.root(94), 45);
        Check.due(s + " | as of 93", x.root(93), 39);
        Check.due(s + " | INNER with one ENTRY itself", x.held(94, 1), 1);
        Check.due(s + " | deep at 94", x.deep(94), 2);
        Check.due(s + " | reads at 94", x.reads(0, 999, 94), 2);
        Check.due(s + " | at 97", told(x, 45), 0, 2, 1, 94, 97);
        Check.due(s + " | a LEAF", x.root(97), 46);
        Check.due(s + " | deep at 97", x.deep(97), 1);
        Check.due(s + " | ROOTS", x.room(3), 7);
    }

    private static void refusedAt280() {
        String s = "refused, and nothing happens, if there are 280 pages or more";
        TimeIndex x = Check.told("page 6; do 99; do 3; put 3*j+i 7; end; end;");
        Check.due(s + " | 280", x.room(0), 280);
        Check.due(s + " | time", x.count(0), 229);
        Check.due(s + " | begun all the same", x.count(4), 297);
        Check.due(s + " | those that were refused", x.count(5), 297 - 229);
        int[] before = room(x);
        Check.due(s + " | PUT of a new KEY", x.put(900, 1), -1);
        Check.due(s + " | PUT of one that lives", x.put(0, 1), -1);
        Check.due(s + " | CUT of one that lives", x.cut(0), -1);
        Check.due(s + " | CUT of one that does not", x.cut(900), -1);
        Check.due(s + " | nothing", room(x), before);
        Check.due(s + " | time as it was", x.count(0), 229);
        Check.due(s + " | KEYS as they were", x.count(1), 229);
        Check.due(s + " | value as it was", x.value(0, 229), 7);
        Check.due(s + " | TO as it was", x.version(0, 0, 1), -2);
        Check.due(s + " | another text", Check.read(x, "put 1 1;"), 0);
        Check.due(s + " | no more", x.put(900, 1), 2);
    }

    private static void notRefusedAt279() {
        String s = "refused .. 280 pages (279: not)";
        TimeIndex x = Check.told("page 6; do 4; put 999 i; end; do 75; do 3; put 3*j+i 7; end; end;");
        Check.due(s + " | 279", x.room(0), 279);
        Check.due(s + " | time", x.count(0), 229);
        Check.due(s + " | none refused", x.count(5), 0);
        Check.due(s + " | PUT", x.put(225, 7), 230);
        Check.due(s + " | CUT", x.cut(0), 231);
        Check.due(s + " | PUT once more", x.put(226, 7), 232);
        Check.due(s + " | still 279", x.room(0), 279);
        Check.due(s + " | one that makes two pages", x.put(227, 7), 233);
        Check.due(s + " | 281", x.room(0), 281);
        Check.due(s + " | PUT then", x.put(228, 7), -1);
        Check.due(s + " | CUT then", x.cut(1), -1);
        Check.due(s + " | time then", x.count(0), 233);
    }

    private static void noSuchKeys() {
        TimeIndex x = twoLeaves(6);
        int[] before = room(x);
        for (int key : NO_KEYS) {
            Check.due("put: no such KEY (0 .. 999) | " + key, x.put(key, 1), -1);
            Check.due("cut: no such KEY | " + key, x.cut(key), -1);
            Check.due("leaf: no such ones | " + key, x.leaf(key, 7), -1);
            Check.due("way: no such ones | " + key, x.way(key, 7, 0), -1);
            Check.due("reads: no such ones | lo " + key, x.reads(key, 999, 7), -1);
            Check.due("reads: no such ones | hi " + key, x.reads(0, key, 7), -1);
        }
        Check.due("put, cut: nothing happens", room(x), before);
        Check.due("put, cut: no time", x.count(0), 7);
        Check.due("put: the least KEY", x.put(0, 1), 8);
        Check.due("put: the greatest KEY", x.put(999, 1), 9);
        Check.due("put: the least value", x.put(999, Integer.MIN_VALUE), 10);
        Check.due("cut: the least KEY", x.cut(0), 11);
        Check.due("cut: the greatest KEY", x.cut(999), 12);
        int[] times = {-1, 13, Integer.MIN_VALUE, Integer.MAX_VALUE};
        for (int t : times) {
            Check.due("root: no such time | " + t, x.root(t), -1);
            Check.due("deep: no such time | " + t, x.deep(t), -1);
            Check.due("leaf: no such ones | t " + t, x.leaf(0, t), -1);
            Check.due("reads: no such ones | t " + t, x.reads(0, 999, t), -1);
            Check.due("thin: no such time | " + t, x.thin(t), -1);
            Check.due("way: no such ones | t " + t, x.way(0, t, 0), -1);
            Check.due("held: no such ones | t " + t, x.held(t, 0), -1);
        }
        Check.due("root: the time as it is", x.root(12), 3);
        Check.due("root: time 0", x.root(0), 0);
    }

    private static void noSuchPages() {
        TimeIndex x = twoLeaves(6);
        int[] pages = {-1, 4, Integer.MIN_VALUE, Integer.MAX_VALUE};
        for (int page : pages) {
            for (int what = 0; what <= 4; what++) {
                Check.due("page: NONE for others | page " + page, x.page(page, what), -1);
                Check.due("entry: -1000 for others | page " + page, x.entry(page, 0, what), -1000);
            }
        }
        Check.due("page: the last one", x.page(3, 0), 0);
        int[] rows = {-1, 3, 6, Integer.MIN_VALUE, Integer.MAX_VALUE};
        for (int i : rows) {
            Check.due("entry: -1000 for others | i " + i, x.entry(1, i, 0), -1000);
        }
        Check.due("entry: the last of page 1", x.entry(1, 2, 0), 2);
        Check.due("entry: the last of page 0", x.entry(0, 5, 0), 5);
        Check.due("entry: none behind in page 3", x.entry(3, 2, 3), -1000);
        int[] steps = {-1, 2, Integer.MIN_VALUE, Integer.MAX_VALUE};
        for (int i : steps) {
            Check.due("way: not so many | " + i, x.way(0, 7, i), -1);
        }
        Check.due("way: the last one", x.way(999, 7, 1), 2);
    }

    private static void noSuchWhats() {
        TimeIndex x = twoLeaves(6);
        int[] wild = {-1, -2, Integer.MIN_VALUE, Integer.MAX_VALUE};
        for (int what : wild) {
            Check.due("page: NONE for others | what " + what, x.page(0, what), -1);
            Check.due("entry: -1000 for others | what " + what, x.entry(0, 0, what), -1000);
            Check.due("room: NONE for others | what " + what, x.room(what), -1);
            Check.due("held: no such ones | what " + what, x.held(7, what), -1);
        }
        Check.due("page: what 5", x.page(0, 5), -1);
        Check.due("entry: what 4", x.entry(0, 0, 4), -1000);
        Check.due("room: what 6", x.room(6), -1);
        Check.due("held: what 4", x.held(7, 4), -1);
    }

    private static void entriesByTheTime() {
        String s = "a thousand times ENTRIES of all by the time, rounded down (time 0: 0)";
        TimeIndex x = new TimeIndex();
        Check.due(s + " | time 0", x.room(5), 0);
        int[] due = {1000, 500, 666, 500, 600};
        for (int n = 0; n < 5; n++) {
            if (n % 2 == 0) {
                x.put(5, n);
            } else {
                x.cut(5);
            }
            Check.due(s + " | time " + (n + 1), x.room(5), due[n]);
        }
        Check.due(s + " | 15 by 7", twoLeaves(6).room(5), 2142);
    }
}
