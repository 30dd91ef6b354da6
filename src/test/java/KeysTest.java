/** Promises 8 to 21 and 28 to 30: KEYS as of a time, and their VERSIONS. */
public final class KeysTest {
    public static void main(String[] args) {
        TimeIndex x = nine();
        one(x);
        ranges(x);
        ranks(x);
        twoTimes(x);
        allVersions(nine());
        most(nine());
        gaps(nine());
        acrossPages();
        Check.finish();
    }

    /**
     * What lives: 1 {10=1}, 2 {10=1 20=2}, 3 {10=1 20=2 30=3}, 4 {10=1 20=5 30=3}, 5 {20=5 30=3},
     * 6 {10=1 20=5 30=3}, 7 {10=1 20=5}, 8 and 9 {10=1 20=5 30=3}.
     */
    private static TimeIndex nine() {
        TimeIndex x = new TimeIndex();
        x.put(10, 1);
        x.put(20, 2);
        x.put(30, 3);
        x.put(20, 5);
        x.cut(10);
        x.put(10, 1);
        x.cut(30);
        x.put(30, 3);
        Check.due("promise 6: the ninth time", x.put(20, 5), 9);
        return x;
    }

    private static void one(TimeIndex x) {
        int[] has = new int[12];
        for (int t = -1; t <= 10; t++) {
            has[t + 1] = x.has(10, t);
        }
        Check.due("promise 8: has(10)", has, -1, 0, 1, 1, 1, 1, 0, 1, 1, 1, 1, -1);
        Check.due("promise 8: another KEY", x.has(11, 4), 0);
        Check.due("promise 8: no such KEY", x.has(-1, 4), -1);
        Check.due("promise 8: no such KEY", x.has(1000, 4), -1);
        Check.due("promise 9: value(20, 1)", x.value(20, 1), 0);
        Check.due("promise 9: value(20, 3)", x.value(20, 3), 2);
        Check.due("promise 9: value(20, 4)", x.value(20, 4), 5);
        Check.due("promise 9: value(10, 5)", x.value(10, 5), 0);
        Check.due("promise 9: no such time", x.value(20, 10), 0);
        Check.due("promise 9: no such time", x.value(20, -1), 0);
        Check.due("promise 9: no such KEY", x.value(1000, 4), 0);
        Check.due("promise 9: no such KEY", x.value(-1, 4), 0);
        Check.due("promise 10: since(20, 1)", x.since(20, 1), -2);
        Check.due("promise 10: since(20, 3)", x.since(20, 3), 2);
        Check.due("promise 10: since(20, 8)", x.since(20, 8), 4);
        Check.due("promise 10: since(20, 9)", x.since(20, 9), 9);
        Check.due("promise 10: since(10, 5)", x.since(10, 5), -2);
        Check.due("promise 10: no such time", x.since(20, 10), -1);
        Check.due("promise 10: no such time", x.since(20, -1), -1);
        Check.due("promise 10: no such KEY", x.since(1000, 4), -1);
        Check.due("promise 10: no such KEY", x.since(-1, 4), -1);
    }

    private static void ranges(TimeIndex x) {
        Check.due("promise 11: all", x.many(0, 999, 4), 3);
        Check.due("promise 11: both ends", x.many(10, 20, 4), 2);
        Check.due("promise 11: between", x.many(11, 19, 4), 0);
        Check.due("promise 11: one", x.many(20, 20, 4), 1);
        Check.due("promise 11: turned", x.many(20, 10, 4), 0);
        Check.due("promise 11: time 0", x.many(0, 999, 0), 0);
        Check.due("promise 11: lo", x.many(-1, 5, 4), -1);
        Check.due("promise 11: lo", x.many(1000, 5, 4), -1);
        Check.due("promise 11: hi", x.many(0, 1000, 4), -1);
        Check.due("promise 11: hi", x.many(0, -1, 4), -1);
        Check.due("promise 11: time", x.many(0, 999, 10), -1);
        Check.due("promise 11: time", x.many(0, 999, -1), -1);
        Check.due("promise 12: all", x.sum(0, 999, 4), 9);
        Check.due("promise 12: both ends", x.sum(10, 20, 4), 6);
        Check.due("promise 12: then", x.sum(10, 20, 3), 3);
        Check.due("promise 12: turned", x.sum(20, 10, 4), 0);
        Check.due("promise 12: no such range", x.sum(0, 1000, 4), 0);
        Check.due("promise 12: no such range", x.sum(-1, 999, 4), 0);
        Check.due("promise 12: no such time", x.sum(0, 999, 10), 0);
        TimeIndex y = new TimeIndex();
        y.put(1, Integer.MAX_VALUE);
        y.put(2, 3);
        Check.due("promise 12: wraps", y.sum(0, 999, 2), Integer.MIN_VALUE + 2);
    }

    private static void ranks(TimeIndex x) {
        Check.due("promise 13: nth(0, 5)", x.nth(0, 5), 20);
        Check.due("promise 13: nth(1, 5)", x.nth(1, 5), 30);
        Check.due("promise 13: nth(2, 5)", x.nth(2, 5), -2);
        Check.due("promise 13: nth(2, 6)", x.nth(2, 6), 30);
        Check.due("promise 13: nth(most, 6)", x.nth(Integer.MAX_VALUE, 6), -2);
        Check.due("promise 13: nth(-1, 5)", x.nth(-1, 5), -1);
        Check.due("promise 13: nth(0, 10)", x.nth(0, 10), -1);
        Check.due("promise 13: nth(0, -1)", x.nth(0, -1), -1);
        Check.due("promise 14: next(10, 5)", x.next(10, 5), 20);
        Check.due("promise 14: next(20, 5)", x.next(20, 5), 20);
        Check.due("promise 14: next(21, 5)", x.next(21, 5), 30);
        Check.due("promise 14: next(31, 5)", x.next(31, 5), -2);
        Check.due("promise 14: no such KEY", x.next(1000, 5), -1);
        Check.due("promise 14: no such KEY", x.next(-1, 5), -1);
        Check.due("promise 14: no such time", x.next(5, 10), -1);
        Check.due("promise 15: prior(999, 5)", x.prior(999, 5), 30);
        Check.due("promise 15: prior(29, 5)", x.prior(29, 5), 20);
        Check.due("promise 15: prior(20, 5)", x.prior(20, 5), 20);
        Check.due("promise 15: prior(19, 5)", x.prior(19, 5), -2);
        Check.due("promise 15: prior(19, 4)", x.prior(19, 4), 10);
        Check.due("promise 15: no such KEY", x.prior(1000, 5), -1);
        Check.due("promise 15: no such KEY", x.prior(-1, 5), -1);
        Check.due("promise 15: no such time", x.prior(5, 10), -1);
    }

    private static void twoTimes(TimeIndex x) {
        Check.due("promise 16: an unlike value", x.differ(0, 999, 3, 4), 1);
        Check.due("promise 16: another VERSION alike", x.differ(0, 999, 4, 6), 0);
        Check.due("promise 16: one only", x.differ(0, 999, 4, 5), 1);
        Check.due("promise 16: from none", x.differ(0, 999, 0, 4), 3);
        Check.due("promise 16: the earlier one behind", x.differ(0, 999, 4, 0), 3);
        Check.due("promise 16: one time", x.differ(0, 999, 4, 4), 0);
        Check.due("promise 16: 3 and 7", x.differ(0, 999, 3, 7), 2);
        Check.due("promise 16: part", x.differ(20, 29, 3, 7), 1);
        Check.due("promise 16: other part", x.differ(10, 19, 3, 7), 0);
        Check.due("promise 16: turned", x.differ(30, 10, 0, 4), 0);
        Check.due("promise 16: t", x.differ(0, 999, 10, 4), -1);
        Check.due("promise 16: u", x.differ(0, 999, 4, -1), -1);
        Check.due("promise 16: range", x.differ(0, 1000, 4, 4), -1);
        Check.due("promise 17: one time", x.ever(0, 999, 5, 5), 2);
        Check.due("promise 17: two times", x.ever(0, 999, 5, 6), 3);
        Check.due("promise 17: lived at first", x.ever(0, 999, 4, 5), 3);
        Check.due("promise 17: all times", x.ever(0, 999, 0, 9), 3);
        Check.due("promise 17: part", x.ever(25, 35, 7, 7), 0);
        Check.due("promise 17: turned", x.ever(999, 0, 0, 9), 0);
        Check.due("promise 17: u earlier", x.ever(0, 999, 6, 5), -1);
        Check.due("promise 17: u", x.ever(0, 999, 0, 10), -1);
        Check.due("promise 17: t", x.ever(0, 999, -1, 5), -1);
        Check.due("promise 17: range", x.ever(-1, 999, 0, 5), -1);
        Check.due("promise 18: all times", x.stay(10, 0, 9), 8);
        Check.due("promise 18: over VERSIONS", x.stay(20, 0, 9), 8);
        Check.due("promise 18: 30", x.stay(30, 0, 9), 6);
        Check.due("promise 18: away", x.stay(10, 5, 5), 0);
        Check.due("promise 18: about it", x.stay(10, 4, 6), 2);
        Check.due("promise 18: never", x.stay(99, 0, 9), 0);
        Check.due("promise 18: u earlier", x.stay(10, 6, 5), -1);
        Check.due("promise 18: u", x.stay(10, 0, 10), -1);
        Check.due("promise 18: t", x.stay(10, -1, 5), -1);
        Check.due("promise 18: no such KEY", x.stay(1000, 0, 1), -1);
    }

    private static void allVersions(TimeIndex x) {
        Check.due("promise 19: 10", x.versions(10), 2);
        Check.due("promise 19: 20", x.versions(20), 3);
        Check.due("promise 19: 99", x.versions(99), 0);
        Check.due("promise 19: no such KEY", x.versions(-1), -1);
        Check.due("promise 19: no such KEY", x.versions(1000), -1);
        int[] twenty = new int[9];
        for (int n = 0; n < 9; n++) {
            twenty[n] = x.version(20, n / 3, n % 3);
        }
        Check.due("promise 20: 20", twenty, 2, 4, 2, 4, 9, 5, 9, -2, 5);
        Check.due("promise 20: TO by a CUT", x.version(10, 0, 1), 5);
        Check.due("promise 20: FROM behind it", x.version(10, 1, 0), 6);
        Check.due("promise 20: not so many", x.version(20, 3, 0), -1000);
        Check.due("promise 20: i below 0", x.version(20, -1, 0), -1000);
        Check.due("promise 20: what 3", x.version(20, 0, 3), -1000);
        Check.due("promise 20: what -1", x.version(20, 0, -1), -1000);
        Check.due("promise 20: no such KEY", x.version(1000, 0, 0), -1000);
        Check.due("promise 20: none of it", x.version(99, 0, 0), -1000);
        Check.due("promise 28: alike ones, the first", x.longest(10, 0), 0);
        Check.due("promise 28: how long", x.longest(10, 1), 4);
        Check.due("promise 28: 20", x.longest(20, 0), 1);
        Check.due("promise 28: 20, how long", x.longest(20, 1), 5);
        Check.due("promise 28: none", x.longest(99, 0), -2);
        Check.due("promise 28: none", x.longest(99, 1), -2);
        Check.due("promise 28: what 2", x.longest(20, 2), -1);
        Check.due("promise 28: what -1", x.longest(99, -1), -1);
        Check.due("promise 28: no such KEY", x.longest(1000, 0), -1);
        x.put(99, 9);
        Check.due("promise 28: it still lives", x.longest(10, 0), 1);
        Check.due("promise 28: to the time and 1", x.longest(10, 1), 5);
        Check.due("promise 28: since now", x.longest(99, 1), 1);
    }

    private static void most(TimeIndex x) {
        Check.due("promise 21: the earliest", x.peak(0, 999, 0), 3);
        Check.due("promise 21: how many", x.peak(0, 999, 1), 3);
        Check.due("promise 21: one KEY", x.peak(10, 10, 0), 1);
        Check.due("promise 21: two", x.peak(20, 30, 1), 2);
        Check.due("promise 21: never", x.peak(21, 29, 0), 0);
        Check.due("promise 21: never, how many", x.peak(21, 29, 1), 0);
        Check.due("promise 21: turned", x.peak(30, 10, 1), 0);
        Check.due("promise 21: what 2", x.peak(0, 999, 2), -1);
        Check.due("promise 21: what -1", x.peak(0, 999, -1), -1);
        Check.due("promise 21: lo", x.peak(-1, 999, 0), -1);
        Check.due("promise 21: hi", x.peak(0, 1000, 0), -1);
        Check.due("promise 29: all", x.busiest(0, 999, 0), 20);
        Check.due("promise 29: how many", x.busiest(0, 999, 1), 3);
        Check.due("promise 29: part", x.busiest(21, 40, 0), 30);
        Check.due("promise 29: part, how many", x.busiest(21, 40, 1), 2);
        Check.due("promise 29: none", x.busiest(0, 9, 0), -2);
        Check.due("promise 29: none", x.busiest(0, 9, 1), -2);
        Check.due("promise 29: turned", x.busiest(30, 10, 0), -2);
        Check.due("promise 29: what 2", x.busiest(0, 999, 2), -1);
        Check.due("promise 29: what -1", x.busiest(0, 9, -1), -1);
        Check.due("promise 29: range", x.busiest(0, 1000, 0), -1);
        x.put(10, 7);
        Check.due("promise 29: of alike ones the least", x.busiest(0, 999, 0), 10);
        x.cut(10);
        Check.due("promise 29: though it lives no more", x.busiest(0, 999, 0), 10);
        x.put(40, 4);
        x.put(10, 4);
        Check.due("promise 21: more lived later", x.peak(0, 999, 0), 13);
        Check.due("promise 21: so many", x.peak(0, 999, 1), 4);
        x.cut(40);
        Check.due("promise 21: that stays", x.peak(0, 999, 0), 13);
    }

    private static void gaps(TimeIndex x) {
        Check.due("promise 30: of alike ones the lesser", x.gap(4, 0), 10);
        Check.due("promise 30: how far", x.gap(4, 1), 10);
        Check.due("promise 30: as of 5", x.gap(5, 0), 20);
        Check.due("promise 30: one KEY", x.gap(1, 0), -2);
        Check.due("promise 30: one KEY", x.gap(1, 1), -2);
        Check.due("promise 30: no KEY", x.gap(0, 1), -2);
        Check.due("promise 30: no such time", x.gap(10, 0), -1);
        Check.due("promise 30: no such time", x.gap(-1, 0), -1);
        Check.due("promise 30: what 2", x.gap(4, 2), -1);
        Check.due("promise 30: what -1, one KEY", x.gap(1, -1), -1);
        x.put(999, 1);
        Check.due("promise 30: farthest", x.gap(10, 0), 30);
        Check.due("promise 30: how far", x.gap(10, 1), 969);
        x.put(0, 1);
        x.put(500, 1);
        Check.due("promise 30: no KEY between", x.gap(12, 0), 500);
        Check.due("promise 30: no KEY between, how far", x.gap(12, 1), 499);
    }

    /** 99 KEYS of three VERSIONS over many pages. */
    private static void acrossPages() {
        TimeIndex x = Check.told("page 7; do 99; put i*10 i; end; do 99; put (98-i)*10 i+1000; end; do 50; cut i*20; end;");
        int now = x.count(0);
        Check.due("time", now, 248);
        Check.due("deep enough", x.deep(198) > 2, true);
        Check.due("promise 11: first row", x.many(0, 999, 99), 99);
        Check.due("promise 11: half of it", x.many(0, 999, 50), 50);
        Check.due("promise 12: first row", x.sum(0, 999, 99), 98 * 99 / 2);
        Check.due("promise 9: ahead of the second", x.value(500, 147), 50);
        Check.due("promise 9: the second", x.value(500, 148), 1048);
        Check.due("promise 10: the second", x.since(500, 198), 148);
        Check.due("promise 11: what is left", x.many(0, 999, now), 49);
        Check.due("promise 13: what is left", x.nth(20, now), 410);
        Check.due("promise 14: what is left", x.next(20, now), 30);
        Check.due("promise 15: what is left", x.prior(969, now), 950);
        Check.due("promise 16: first and second row", x.differ(0, 999, 99, 198), 99);
        Check.due("promise 17: 148 to 248", x.ever(0, 499, 198, now), 50);
        Check.due("promise 18: 40", x.stay(40, 0, now), 201 - 5);
        Check.due("promise 19: 40", x.versions(40), 2);
        Check.due("promise 20: 40", x.version(40, 1, 1), 201);
        Check.due("promise 21", x.peak(0, 999, 0), 99);
        Check.due("promise 30", x.gap(now, 1), 20);
    }
}
