/**
 * Promises 8 to 31 with the terms of ==== III, sentence by sentence: the edges of KEYS, RANGES and times, what
 * is empty, what is alike, and what there is not. What a wrong answer prints begins with the sentence's words.
 */
public final class AskEdgesTest {
    private static final int LEAST = Integer.MIN_VALUE;
    private static final int MOST = Integer.MAX_VALUE;
    private static final int[] NO_KEYS = {-1, 1000, LEAST, MOST};
    /** What is neither 0 nor 1. */
    private static final int[] NO_EITHER = {-1, 2, LEAST, MOST};

    public static void main(String[] args) {
        emptyIndex();
        noSuchKeys(five());
        noSuchTimes(five());
        noSuchRanges(five());
        noSuchWhats(five());
        hiBelowLo(five());
        edgesOfARange(five());
        edgesOfTime(five());
        valuesThatWrap();
        ranks(five());
        nextAndPrior(five());
        differOfTwoTimes();
        everFromTToU();
        staysOfAKey();
        versionsByTime();
        longestOfAlikeOnes();
        busiestOfAlikeOnes();
        gapOfAlikeOnes();
        peakOfAlikeOnes();
        rootByTime();
        readsOfSpans();
        thinPages();
        heldNow();
        Check.finish();
    }

    /** Time 1 {0=10}, 2 {0=10 999=20}, 3 {0=10 500=30 999=20}, 4 {500=30 999=20}, 5 {500=40 999=20}. */
    private static TimeIndex five() {
        TimeIndex x = new TimeIndex();
        x.put(0, 10);
        x.put(999, 20);
        x.put(500, 30);
        x.cut(0);
        Check.due("five times", x.put(500, 40), 5);
        return x;
    }

    private static void emptyIndex() {
        String s = "an empty index | ";
        TimeIndex x = new TimeIndex();
        Check.due(s + "has", x.has(0, 0), 0);
        Check.due(s + "value", x.value(0, 0), 0);
        Check.due(s + "since", x.since(0, 0), -2);
        Check.due(s + "many", x.many(0, 999, 0), 0);
        Check.due(s + "sum", x.sum(0, 999, 0), 0);
        Check.due(s + "nth", x.nth(0, 0), -2);
        Check.due(s + "next", x.next(0, 0), -2);
        Check.due(s + "prior", x.prior(999, 0), -2);
        Check.due(s + "differ", x.differ(0, 999, 0, 0), 0);
        Check.due(s + "ever", x.ever(0, 999, 0, 0), 0);
        Check.due(s + "stay", x.stay(0, 0, 0), 0);
        Check.due(s + "versions", x.versions(0), 0);
        Check.due(s + "version", x.version(0, 0, 0), -1000);
        Check.due(s + "peak", x.peak(0, 999, 0), 0);
        Check.due(s + "peak, how many", x.peak(0, 999, 1), 0);
        Check.due(s + "longest", x.longest(0, 0), -2);
        Check.due(s + "longest, how long", x.longest(0, 1), -2);
        Check.due(s + "busiest", x.busiest(0, 999, 0), -2);
        Check.due(s + "busiest, how many", x.busiest(0, 999, 1), -2);
        Check.due(s + "gap", x.gap(0, 0), -2);
        Check.due(s + "gap, how far", x.gap(0, 1), -2);
        Check.due(s + "a later time", x.has(0, 1), -1);
    }

    private static void noSuchKeys(TimeIndex x) {
        for (int key : NO_KEYS) {
            String s = ": no such ones | KEY " + key;
            Check.due("has" + s, x.has(key, 3), -1);
            Check.due("value" + s, x.value(key, 3), 0);
            Check.due("since" + s, x.since(key, 3), -1);
            Check.due("next" + s, x.next(key, 3), -1);
            Check.due("prior" + s, x.prior(key, 3), -1);
            Check.due("stay" + s, x.stay(key, 0, 3), -1);
            Check.due("versions" + s, x.versions(key), -1);
            Check.due("version" + s, x.version(key, 0, 0), -1000);
            Check.due("longest" + s, x.longest(key, 0), -1);
        }
        Check.due("has | the least KEY", x.has(0, 3), 1);
        Check.due("has | the greatest KEY", x.has(999, 3), 1);
        Check.due("value | the least KEY", x.value(0, 3), 10);
        Check.due("value | the greatest KEY", x.value(999, 3), 20);
        Check.due("since | the greatest KEY", x.since(999, 3), 2);
        Check.due("stay | the least KEY", x.stay(0, 0, 5), 3);
        Check.due("stay | the greatest KEY", x.stay(999, 0, 5), 4);
        Check.due("versions | the greatest KEY", x.versions(999), 1);
        Check.due("version | the least KEY", x.version(0, 0, 1), 4);
        Check.due("longest | the greatest KEY", x.longest(999, 1), 4);
    }

    private static void noSuchTimes(TimeIndex x) {
        int[] times = {-1, 6, LEAST, MOST};
        for (int t : times) {
            String s = ": no such ones | T " + t;
            Check.due("has" + s, x.has(500, t), -1);
            Check.due("value" + s, x.value(500, t), 0);
            Check.due("since" + s, x.since(500, t), -1);
            Check.due("many" + s, x.many(0, 999, t), -1);
            Check.due("many, hi below lo" + s, x.many(9, 5, t), -1);
            Check.due("sum" + s, x.sum(0, 999, t), 0);
            Check.due("nth" + s, x.nth(0, t), -1);
            Check.due("next" + s, x.next(0, t), -1);
            Check.due("prior" + s, x.prior(999, t), -1);
            Check.due("differ, the first" + s, x.differ(0, 999, t, 3), -1);
            Check.due("differ, the second" + s, x.differ(0, 999, 3, t), -1);
            Check.due("ever, the first" + s, x.ever(0, 999, t, 3), -1);
            Check.due("ever, the second" + s, x.ever(0, 999, 3, t), -1);
            Check.due("stay, the first" + s, x.stay(500, t, 3), -1);
            Check.due("stay, the second" + s, x.stay(500, 3, t), -1);
            Check.due("gap" + s, x.gap(t, 0), -1);
            Check.due("reads" + s, x.reads(0, 999, t), -1);
        }
    }

    private static void noSuchRanges(TimeIndex x) {
        for (int key : NO_KEYS) {
            String lo = ": no such ones | lo " + key;
            Check.due("many" + lo, x.many(key, 999, 3), -1);
            Check.due("sum" + lo, x.sum(key, 999, 3), 0);
            Check.due("differ" + lo, x.differ(key, 999, 0, 3), -1);
            Check.due("ever" + lo, x.ever(key, 999, 0, 3), -1);
            Check.due("peak" + lo, x.peak(key, 999, 0), -1);
            Check.due("busiest" + lo, x.busiest(key, 999, 0), -1);
            Check.due("reads" + lo, x.reads(key, 999, 3), -1);
            String hi = ": no such ones | hi " + key;
            Check.due("many" + hi, x.many(0, key, 3), -1);
            Check.due("sum" + hi, x.sum(0, key, 3), 0);
            Check.due("differ" + hi, x.differ(0, key, 0, 3), -1);
            Check.due("ever" + hi, x.ever(0, key, 0, 3), -1);
            Check.due("peak" + hi, x.peak(0, key, 0), -1);
            Check.due("busiest" + hi, x.busiest(0, key, 0), -1);
            Check.due("reads" + hi, x.reads(0, key, 3), -1);
        }
    }

    private static void noSuchWhats(TimeIndex x) {
        for (int what : NO_EITHER) {
            String s = ": no such ones | what " + what;
            Check.due("peak" + s, x.peak(0, 999, what), -1);
            Check.due("longest" + s, x.longest(500, what), -1);
            Check.due("longest of none" + s, x.longest(7, what), -1);
            Check.due("busiest" + s, x.busiest(0, 999, what), -1);
            Check.due("busiest of none" + s, x.busiest(1, 2, what), -1);
            Check.due("gap" + s, x.gap(5, what), -1);
            Check.due("gap of none" + s, x.gap(0, what), -1);
        }
        int[] others = {-1, 3, LEAST, MOST};
        for (int what : others) {
            Check.due("version: no such ones | what " + what, x.version(500, 0, what), -1000);
        }
    }

    private static void hiBelowLo(TimeIndex x) {
        String s = "hi below lo: none | ";
        int[][] ranges = {{1, 0}, {999, 0}, {500, 499}, {999, 998}};
        for (int[] r : ranges) {
            Check.due(s + "many", x.many(r[0], r[1], 3), 0);
            Check.due(s + "sum", x.sum(r[0], r[1], 3), 0);
            Check.due(s + "differ", x.differ(r[0], r[1], 0, 3), 0);
            Check.due(s + "ever", x.ever(r[0], r[1], 0, 5), 0);
            Check.due(s + "peak", x.peak(r[0], r[1], 0), 0);
            Check.due(s + "peak, how many", x.peak(r[0], r[1], 1), 0);
            Check.due(s + "busiest", x.busiest(r[0], r[1], 0), -2);
            Check.due(s + "busiest, how many", x.busiest(r[0], r[1], 1), -2);
            Check.due(s + "reads: the ROOT alone", x.reads(r[0], r[1], 3), 1);
        }
    }

    private static void edgesOfARange(TimeIndex x) {
        String s = "RANGE: KEYS from lo to hi, both too | ";
        int[][] ranges = {{0, 0}, {0, 499}, {0, 500}, {1, 499}, {1, 500}, {500, 500}, {501, 998}, {501, 999},
            {999, 999}, {0, 999}};
        int[] many = {1, 1, 2, 0, 1, 1, 0, 1, 1, 3};
        int[] sums = {10, 10, 40, 0, 30, 30, 0, 20, 20, 60};
        for (int n = 0; n < ranges.length; n++) {
            int lo = ranges[n][0];
            int hi = ranges[n][1];
            Check.due(s + "many of " + lo + " to " + hi, x.many(lo, hi, 3), many[n]);
            Check.due(s + "sum of " + lo + " to " + hi, x.sum(lo, hi, 3), sums[n]);
            Check.due(s + "differ of " + lo + " to " + hi, x.differ(lo, hi, 0, 3), many[n]);
            Check.due(s + "ever of " + lo + " to " + hi, x.ever(lo, hi, 0, 5), many[n]);
            Check.due(s + "peak of " + lo + " to " + hi, x.peak(lo, hi, 1), many[n]);
            Check.due(s + "busiest of " + lo + " to " + hi, x.busiest(lo, hi, 1) > 0, many[n] > 0);
        }
    }

    private static void edgesOfTime(TimeIndex x) {
        String s = "As of a time T (0 to the time as it is) | ";
        int[] many = {0, 1, 2, 3, 2, 2};
        int[] sums = {0, 10, 30, 60, 50, 60};
        int[] since = {-2, -2, -2, 3, 3, 5};
        int[] values = {0, 0, 0, 30, 30, 40};
        for (int t = 0; t <= 5; t++) {
            Check.due(s + "many at " + t, x.many(0, 999, t), many[t]);
            Check.due(s + "sum at " + t, x.sum(0, 999, t), sums[t]);
            Check.due(s + "since at " + t, x.since(500, t), since[t]);
            Check.due(s + "value at " + t, x.value(500, t), values[t]);
            Check.due(s + "has at " + t, x.has(500, t), since[t] > 0 ? 1 : 0);
        }
        x.put(1, 1);
        Check.due(s + "a time that came", x.many(0, 999, 6), 3);
        Check.due(s + "what was stays", x.many(0, 999, 5), 2);
    }

    private static void valuesThatWrap() {
        String s = "Their values, added (32 bits that wrap) | ";
        TimeIndex x = new TimeIndex();
        x.put(1, MOST);
        x.put(2, 1);
        Check.due(s + "beyond the greatest", x.sum(0, 999, 2), LEAST);
        x.put(3, LEAST);
        Check.due(s + "beyond the least", x.sum(1, 3, 3), 0);
        x.put(2, -1);
        Check.due(s + "the least and -1", x.sum(2, 3, 4), MOST);
        Check.due(s + "one alone", x.sum(3, 3, 4), LEAST);
        Check.due("value | -1", x.value(2, 4), -1);
        Check.due("value | the least", x.value(3, 4), LEAST);
        x.put(4, 0);
        Check.due("value | 0, though it lives", x.value(4, 5), 0);
        Check.due("has | though its value is 0", x.has(4, 5), 1);
        Check.due("version | -1000 as a value", x.put(5, -1000) == 6 ? x.version(5, 0, 2) : 0, -1000);
    }

    private static void ranks(TimeIndex x) {
        String s = "The i-th KEY that lives at T; -2: not so many; NONE: no such ones (i below 0) | ";
        Check.due(s + "0", x.nth(0, 3), 0);
        Check.due(s + "1", x.nth(1, 3), 500);
        Check.due(s + "2", x.nth(2, 3), 999);
        Check.due(s + "3", x.nth(3, 3), -2);
        Check.due(s + "2, one having gone", x.nth(2, 4), -2);
        Check.due(s + "0, one having gone", x.nth(0, 4), 500);
        Check.due(s + "999", x.nth(999, 3), -2);
        Check.due(s + "1000", x.nth(1000, 3), -2);
        Check.due(s + "the greatest int", x.nth(MOST, 3), -2);
        Check.due(s + "-1", x.nth(-1, 3), -1);
        Check.due(s + "the least int", x.nth(LEAST, 3), -1);
        Check.due(s + "-1 of none", x.nth(-1, 0), -1);
    }

    private static void nextAndPrior(TimeIndex x) {
        String s = "The least KEY that lives at T and is this or greater; -2: none | ";
        Check.due(s + "this", x.next(0, 3), 0);
        Check.due(s + "greater", x.next(1, 3), 500);
        Check.due(s + "500", x.next(500, 3), 500);
        Check.due(s + "501", x.next(501, 3), 999);
        Check.due(s + "999", x.next(999, 3), 999);
        Check.due(s + "999, not yet", x.next(999, 1), -2);
        Check.due(s + "1 at 1", x.next(1, 1), -2);
        Check.due(s + "gone", x.next(0, 4), 500);
        s = "The greatest KEY that lives at T and is this or less; -2: none | ";
        Check.due(s + "this", x.prior(999, 3), 999);
        Check.due(s + "less", x.prior(998, 3), 500);
        Check.due(s + "500", x.prior(500, 3), 500);
        Check.due(s + "499", x.prior(499, 3), 0);
        Check.due(s + "0", x.prior(0, 3), 0);
        Check.due(s + "0, gone", x.prior(0, 4), -2);
        Check.due(s + "499, gone", x.prior(499, 4), -2);
    }

    private static void differOfTwoTimes() {
        String s = "DIFFER of two times: KEYS of a RANGE that live at one only, or with unlike values | ";
        TimeIndex x = five();
        Check.due(s + "one time", x.differ(0, 999, 3, 3), 0);
        Check.due(s + "at one only", x.differ(0, 0, 3, 4), 1);
        Check.due(s + "at the other only", x.differ(0, 0, 0, 1), 1);
        Check.due(s + "unlike values", x.differ(500, 500, 4, 5), 1);
        Check.due(s + "the later one first", x.differ(500, 500, 5, 4), 1);
        Check.due(s + "at neither", x.differ(0, 0, 0, 5), 0);
        Check.due(s + "all times", x.differ(0, 999, 0, 5), 2);
        x.cut(500);
        x.put(500, 40);
        Check.due(s + "alike values of two VERSIONS", x.differ(0, 999, 5, 7), 0);
        x.put(7, 0);
        Check.due(s + "a value of 0 is not as none", x.differ(7, 7, 7, 8), 1);
    }

    private static void everFromTToU() {
        String s = "EVER from T to U (U not earlier): KEYS of a RANGE that live at one of these times at least | ";
        TimeIndex x = five();
        Check.due(s + "one time", x.ever(0, 999, 4, 4), 2);
        Check.due(s + "T alone counts", x.ever(0, 0, 3, 5), 1);
        Check.due(s + "behind it", x.ever(0, 0, 4, 5), 0);
        Check.due(s + "U alone counts", x.ever(999, 999, 0, 2), 1);
        Check.due(s + "ahead of it", x.ever(999, 999, 0, 1), 0);
        Check.due(s + "all times", x.ever(0, 999, 0, 5), 3);
        Check.due(s + "time 0", x.ever(0, 999, 0, 0), 0);
        Check.due(s + "U earlier", x.ever(0, 999, 3, 2), -1);
        Check.due(s + "U far earlier", x.ever(0, 999, 5, 0), -1);
        Check.due(s + "U earlier, hi below lo", x.ever(9, 5, 5, 0), -1);
        x.put(7, 1);
        x.cut(7);
        Check.due(s + "one time between", x.ever(7, 7, 5, 7), 1);
        Check.due(s + "gone by then", x.ever(7, 7, 7, 7), 0);
    }

    private static void staysOfAKey() {
        String s = "STAY: at how many of them a KEY lives | ";
        TimeIndex x = five();
        Check.due(s + "all", x.stay(0, 0, 5), 3);
        Check.due(s + "to its TO", x.stay(0, 1, 4), 3);
        Check.due(s + "from its TO", x.stay(0, 4, 5), 0);
        Check.due(s + "its last time", x.stay(0, 3, 3), 1);
        Check.due(s + "its first time", x.stay(0, 0, 1), 1);
        Check.due(s + "over two VERSIONS", x.stay(500, 0, 5), 3);
        Check.due(s + "never", x.stay(7, 0, 5), 0);
        Check.due(s + "U earlier", x.stay(500, 5, 4), -1);
        x.put(0, 1);
        Check.due(s + "back again", x.stay(0, 0, 6), 4);
        Check.due(s + "about the gap", x.stay(0, 3, 6), 2);
    }

    private static void versionsByTime() {
        String s = "VERSIONS of a KEY .. by time: FROM, TO (none: still), value | ";
        TimeIndex x = five();
        int[] all = new int[6];
        for (int n = 0; n < 6; n++) {
            all[n] = x.version(500, n / 3, n % 3);
        }
        Check.due(s + "two", all, 3, 5, 30, 5, -2, 40);
        Check.due(s + "how many", x.versions(500), 2);
        Check.due(s + "one that went", x.versions(0), 1);
        Check.due(s + "none", x.versions(7), 0);
        int[] rows = {-1, 2, LEAST, MOST};
        for (int i : rows) {
            for (int what = 0; what <= 2; what++) {
                Check.due("-1000: not so many, no such ones | i " + i, x.version(500, i, what), -1000);
            }
        }
        x.put(500, 40);
        Check.due(s + "an alike value is another VERSION", x.versions(500), 3);
        x.cut(500);
        Check.due(s + "a CUT is none", x.versions(500), 3);
        Check.due(s + "it has TO then", x.version(500, 2, 1), 7);
    }

    private static void longestOfAlikeOnes() {
        String s = "LONGEST of a KEY: the VERSION that lived longest (of one that still does: to the time as it "
                + "is and 1), of alike ones the first | ";
        TimeIndex x = new TimeIndex();
        x.put(5, 1);
        Check.due(s + "begun now", x.longest(5, 1), 1);
        x.put(6, 1);
        x.put(5, 2);
        Check.due(s + "the first lived 2", x.longest(5, 1), 2);
        x.put(6, 2);
        Check.due(s + "both lived 2: the first", x.longest(5, 0), 0);
        x.put(6, 3);
        Check.due(s + "the second lives for 3", x.longest(5, 0), 1);
        Check.due(s + "how long", x.longest(5, 1), 3);
        x.cut(5);
        Check.due(s + "it ended: the same", x.longest(5, 1), 3);
        x.put(5, 3);
        x.put(6, 4);
        x.put(6, 5);
        Check.due(s + "the third as long: the earlier", x.longest(5, 0), 1);
        x.put(6, 6);
        Check.due(s + "the third longer", x.longest(5, 0), 2);
        Check.due(s + "how long the third", x.longest(5, 1), 4);
        Check.due("-2: none", x.longest(7, 0), -2);
        Check.due("-2: none, how long", x.longest(7, 1), -2);
    }

    private static void busiestOfAlikeOnes() {
        String s = "BUSIEST of a RANGE: the KEY of most VERSIONS, one at least, of alike ones the least | ";
        TimeIndex x = new TimeIndex();
        x.put(999, 1);
        Check.due(s + "one", x.busiest(0, 999, 0), 999);
        Check.due(s + "one alone", x.busiest(999, 999, 1), 1);
        x.put(0, 1);
        Check.due(s + "alike", x.busiest(0, 999, 0), 0);
        Check.due(s + "without the least", x.busiest(1, 999, 0), 999);
        x.put(999, 2);
        Check.due(s + "most", x.busiest(0, 999, 0), 999);
        Check.due(s + "how many", x.busiest(0, 999, 1), 2);
        x.cut(999);
        Check.due(s + "though it went", x.busiest(0, 999, 1), 2);
        Check.due(s + "-2: none", x.busiest(1, 998, 0), -2);
        Check.due(s + "-2: none, how many", x.busiest(1, 998, 1), -2);
        Check.due(s + "hi itself", x.busiest(1, 999, 0), 999);
        Check.due(s + "lo itself", x.busiest(0, 998, 0), 0);
    }

    private static void gapOfAlikeOnes() {
        String s = "GAP: the two KEYS living at T, one behind the other with none between, farthest apart, of alike "
                + "ones the lesser | ";
        TimeIndex x = five();
        Check.due(s + "none", x.gap(0, 0), -2);
        Check.due(s + "one", x.gap(1, 0), -2);
        Check.due(s + "one, how far", x.gap(1, 1), -2);
        Check.due(s + "two", x.gap(2, 0), 0);
        Check.due(s + "the farthest there can be", x.gap(2, 1), 999);
        Check.due(s + "three", x.gap(3, 0), 0);
        Check.due(s + "three, how far", x.gap(3, 1), 500);
        Check.due(s + "two again", x.gap(4, 0), 500);
        Check.due(s + "two again, how far", x.gap(4, 1), 499);
        x.put(1, 1);
        Check.due(s + "alike", x.gap(6, 0), 1);
        Check.due(s + "alike, how far", x.gap(6, 1), 499);
        x.cut(999);
        x.cut(1);
        x.put(501, 1);
        Check.due(s + "the nearest there can be", x.gap(9, 1), 1);
    }

    private static void peakOfAlikeOnes() {
        String s = "PEAK of a RANGE: the time at which most KEYS of it live, of alike ones the earliest | ";
        TimeIndex x = five();
        Check.due(s + "all", x.peak(0, 999, 0), 3);
        Check.due(s + "all, how many", x.peak(0, 999, 1), 3);
        Check.due(s + "0", x.peak(0, 0, 0), 1);
        Check.due(s + "without 0: alike at 3, 4, 5", x.peak(1, 999, 0), 3);
        Check.due(s + "never one: time 0", x.peak(1, 499, 0), 0);
        Check.due(s + "never one: how many", x.peak(1, 499, 1), 0);
        x.put(0, 1);
        Check.due(s + "as many again", x.peak(0, 999, 0), 3);
        x.put(7, 1);
        Check.due(s + "more, at the time as it is", x.peak(0, 999, 0), 7);
        Check.due(s + "more, how many", x.peak(0, 999, 1), 4);
        x.cut(7);
        Check.due(s + "it was then", x.peak(0, 999, 0), 7);
    }

    private static void rootByTime() {
        String s = "the ROOT that was from the latest time on that is T or earlier | ";
        TimeIndex x = Check.told("page 6; do 16; put i i; end;");
        int[] roots = {0, 0, 0, 0, 0, 0, 0, 3, 3, 3, 3, 3, 3, 3, 3, 3, 12};
        int[] deep = {1, 1, 1, 1, 1, 1, 1, 2, 2, 2, 2, 2, 2, 2, 2, 2, 3};
        for (int t = 0; t <= 16; t++) {
            Check.due(s + "root at " + t, x.root(t), roots[t]);
            Check.due(s + "deep at " + t, x.deep(t), deep[t]);
            Check.due(s + "the way begins with it", x.way(500, t, 0), roots[t]);
            Check.due(s + "the way ends with the LEAF", x.way(500, t, deep[t] - 1), x.leaf(500, t));
            Check.due(s + "no more of the way", x.way(500, t, deep[t]), -1);
        }
    }

    /** LEAVES of 0 .. 2, 3 .. 5 below one page, of 6 .. 8, 9 .. 11, 12 .. 999 below another. */
    private static void readsOfSpans() {
        String s = "READS of a RANGE .. span (from their bound, the least one from 0, to the next greater one less 1, "
                + "the greatest to 999) | ";
        TimeIndex x = Check.told("page 6; do 16; put i i; end;");
        int[][] ranges = {{0, 0}, {2, 2}, {2, 3}, {3, 5}, {5, 6}, {6, 6}, {8, 9}, {6, 11}, {6, 12}, {12, 12},
            {999, 999}, {16, 999}, {0, 5}, {0, 6}, {0, 999}, {5, 12}};
        int[] due = {3, 3, 4, 3, 5, 3, 4, 4, 5, 3, 3, 3, 4, 6, 8, 7};
        for (int n = 0; n < due.length; n++) {
            Check.due(s + ranges[n][0] + " to " + ranges[n][1], x.reads(ranges[n][0], ranges[n][1], 16), due[n]);
        }
        Check.due(s + "as of 15", x.reads(0, 999, 15), 5);
        Check.due(s + "as of 6: the ROOT", x.reads(0, 999, 6), 1);
        x = Check.told("page 6; do 7; put 500+i*10 i; end;");
        Check.due(s + "the least one from 0", x.reads(0, 0, 7), 2);
        Check.due(s + "below the first KEY", x.reads(3, 499, 7), 2);
        Check.due(s + "to the bound", x.reads(0, 530, 7), 3);
        Check.due(s + "the greatest to 999", x.reads(999, 999, 7), 2);
    }

    private static void thinPages() {
        String s = "THIN: .. but the ROOT, those in which fewer than WEAK live at T | ";
        TimeIndex x = Check.told("page 12; do 13; put i i; end; do 3; cut i; end;");
        Check.due(s + "WEAK live", x.thin(16), 0);
        Check.due(s + "an empty ROOT", x.thin(0), 0);
        x = Check.told("page 6; do 16; put i i; end; do 6; cut i; end;");
        Check.due(s + "an empty LEAF", x.thin(22), 1);
        Check.due(s + "ahead of it", x.thin(21), 0);
        x.put(2, 2);
        Check.due(s + "no more", x.thin(23), 0);
        Check.due(s + "as of then it is", x.thin(22), 1);
        x = Check.told("page 6; do 16; put i i; end; do 12; cut i; end; do 6; put 12 i; end;");
        Check.due(s + "below a new ROOT", x.root(34), 19);
        Check.due(s + "its first page is empty", x.held(34, 2) == 6 ? x.leaf(0, 34) : -1, 14);
        Check.due(s + "that one", x.thin(34), 1);
        Check.due(s + "deep", x.deep(34), 2);
        Check.due(s + "deep ahead", x.deep(33), 3);
    }

    private static void heldNow() {
        String s = "HELD: .. how many more, B each, have room beside all that these pages have now | ";
        TimeIndex x = Check.told("page 6; put 1 1; put 2 2;");
        Check.due(s + "as of 0, though two came since", x.held(0, 3), 4);
        Check.due(s + "LEAVES", x.held(0, 0), 1);
        Check.due(s + "INNER ones", x.held(0, 1), 0);
        Check.due(s + "living at 1", x.held(1, 2), 1);
        x.cut(1);
        Check.due(s + "what went takes room", x.held(3, 3), 4);
        Check.due(s + "it lives no more", x.held(3, 2), 1);
        x = Check.told("page 6; do 16; put i i; end;");
        Check.due(s + "LEAVES of many", x.held(16, 0), 5);
        Check.due(s + "INNER ones of many", x.held(16, 1), 3);
        Check.due(s + "living of many: of INNER ones, too", x.held(16, 2), 16 + 5 + 2);
        Check.due(s + "room of many", x.held(16, 3), 8 * 6 - 23);
        Check.due(s + "as of 15", x.held(15, 2), 15 + 4);
        Check.due(s + "as of 15, pages that ENDED", x.held(15, 3), 6 - 3 + 6 - 3 + 6 - 3 + 6 - 6 + 6 - 6);
    }
}
