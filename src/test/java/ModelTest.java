import java.util.Random;

/**
 * Random runs of at most 512 calls, each answer against the model's. All promises come up; the seeds are
 * fixed, so that a run can be looked at again: java ModelTest [how many runs [the first seed]].
 */
public final class ModelTest {
    private final Random random;
    private final TimeIndex x = new TimeIndex();
    private final Model m = new Model();
    private final String name;
    private final int keys;
    private int calls = 0;

    private ModelTest(long seed) {
        random = new Random(seed);
        name = "seed " + seed;
        int[] spreads = {1, 5, 12, 30, 60, 200, 1000};
        keys = spreads[random.nextInt(spreads.length)];
    }

    public static void main(String[] args) {
        int runs = args.length > 0 ? Integer.parseInt(args[0]) : 1500;
        long first = args.length > 1 ? Long.parseLong(args[1]) : 1;
        for (long seed = first; seed < first + runs && Check.wrong() == 0; seed++) {
            new ModelTest(seed).run();
        }
        Check.finish();
    }

    private void run() {
        boolean mostlyGrows = random.nextBoolean();
        int cutShare = random.nextInt(random.nextBoolean() ? 60 : 100);
        if (random.nextInt(8) > 0) {
            tellText(new TextMaker(random, keys).make());
        }
        while (calls < 512) {
            int kind = random.nextInt(100);
            if (kind < (mostlyGrows ? 50 : 15)) {
                change(cutShare);
            } else if (kind == 99 && random.nextInt(4) == 0 && calls < 400) {
                tellText(new TextMaker(random, keys).make());
            } else {
                ask(random.nextInt(34));
            }
        }
    }

    private void due(String call, int got, int want) {
        calls++;
        Check.due(name + ", call " + calls + ": " + call, got, want);
    }

    private void tellText(String text) {
        for (int from = 0; from < text.length(); from += 20) {
            int[] w = new int[5];
            for (int n = 0; n < 20; n++) {
                w[n / 4] = w[n / 4] << 8 | (from + n < text.length() ? text.charAt(from + n) : ' ');
            }
            due("feed", x.feed(w[0], w[1], w[2], w[3], w[4]), m.feed(w[0], w[1], w[2], w[3], w[4]));
        }
        int spare = (20 - text.length() % 20) % 20;
        due("back(" + spare + ")", x.back(spare), m.back(spare));
        if (random.nextInt(10) == 0) {
            due("back(5)", x.back(5), m.back(5));
        }
        due("read() of " + text, x.read(), m.read());
        due("place() of " + text, x.place(), m.place());
    }

    private void change(int cutShare) {
        int key = random.nextInt(40) == 0 ? any(-3, 1002) : random.nextInt(keys) * (999 / keys);
        if (random.nextInt(100) < cutShare) {
            due("cut(" + key + ")", x.cut(key), m.cut(key));
        } else {
            int value = random.nextInt(10) == 0 ? random.nextInt() : random.nextInt(4);
            due("put(" + key + ", " + value + ")", x.put(key, value), m.put(key, value));
        }
    }

    private int any(int least, int most) {
        return least + random.nextInt(most - least + 1);
    }

    private int key() {
        if (random.nextInt(30) == 0) {
            int[] odd = {-1, 1000, Integer.MIN_VALUE, Integer.MAX_VALUE};
            return odd[random.nextInt(odd.length)];
        }
        return random.nextInt(4) == 0 ? random.nextInt(1000) : random.nextInt(keys) * (999 / keys);
    }

    private int time() {
        if (random.nextInt(30) == 0) {
            int[] odd = {-1, m.count(0) + 1, Integer.MIN_VALUE, Integer.MAX_VALUE};
            return odd[random.nextInt(odd.length)];
        }
        return random.nextInt(5) == 0 ? m.count(0) : random.nextInt(m.count(0) + 1);
    }

    private void ask(int kind) {
        int k = key();
        int l = key();
        int lo = random.nextInt(8) == 0 ? k : Math.min(k, l);
        int hi = random.nextInt(8) == 0 ? l : Math.max(k, l);
        int t = time();
        int u = time();
        int i = any(-1, random.nextInt(3) == 0 ? 60 : 3);
        int what = any(-1, 5);
        String with = " with key " + k + ", range " + lo + ".." + hi + ", times " + t + " " + u
                + ", i " + i + ", what " + what;
        if (kind < 17) {
            askKeys(kind, k, lo, hi, t, u, with);
        } else {
            askPages(kind, k, lo, hi, t, i, what, with);
        }
        askMore(k, i, what, lo, hi, t, with);
    }

    private void askKeys(int kind, int k, int lo, int hi, int t, int u, String with) {
        int i = any(-1, 30);
        switch (kind) {
            case 0: due("has" + with, x.has(k, t), m.has(k, t)); break;
            case 1: due("value" + with, x.value(k, t), m.value(k, t)); break;
            case 2: due("since" + with, x.since(k, t), m.since(k, t)); break;
            case 3: due("many" + with, x.many(lo, hi, t), m.many(lo, hi, t)); break;
            case 4: due("sum" + with, x.sum(lo, hi, t), m.sum(lo, hi, t)); break;
            case 5: due("nth " + i + with, x.nth(i, t), m.nth(i, t)); break;
            case 6: due("next" + with, x.next(k, t), m.next(k, t)); break;
            case 7: due("prior" + with, x.prior(k, t), m.prior(k, t)); break;
            case 8: due("differ" + with, x.differ(lo, hi, t, u), m.differ(lo, hi, t, u)); break;
            case 9: due("ever" + with, x.ever(lo, hi, t, u), m.ever(lo, hi, t, u)); break;
            case 10: due("stay" + with, x.stay(k, t, u), m.stay(k, t, u)); break;
            case 11: due("versions" + with, x.versions(k), m.versions(k)); break;
            case 12: due("root" + with, x.root(t), m.root(t)); break;
            case 13: due("deep" + with, x.deep(t), m.deep(t)); break;
            case 14: due("leaf" + with, x.leaf(k, t), m.leaf(k, t)); break;
            case 15: due("reads" + with, x.reads(lo, hi, t), m.reads(lo, hi, t)); break;
            default: due("thin" + with, x.thin(t), m.thin(t)); break;
        }
    }

    private void askPages(int kind, int k, int lo, int hi, int t, int i, int what, String with) {
        int p = any(-1, m.room(0));
        switch (kind) {
            case 17: due("version" + with, x.version(k, i, what), m.version(k, i, what)); break;
            case 18: due("peak" + with, x.peak(lo, hi, what), m.peak(lo, hi, what)); break;
            case 19: due("way" + with, x.way(k, t, i), m.way(k, t, i)); break;
            case 20: due("longest" + with, x.longest(k, what), m.longest(k, what)); break;
            case 21: due("busiest" + with, x.busiest(lo, hi, what), m.busiest(lo, hi, what)); break;
            case 22: due("gap" + with, x.gap(t, what), m.gap(t, what)); break;
            case 23: due("held" + with, x.held(t, what), m.held(t, what)); break;
            case 24: due("page " + p + with, x.page(p, what), m.page(p, what)); break;
            case 25: due("room" + with, x.room(what), m.room(what)); break;
            default: due("entry " + p + with, x.entry(p, any(i, i), what), m.entry(p, i, what)); break;
        }
    }

    private void askMore(int k, int i, int what, int lo, int hi, int t, String with) {
        int count = any(-1, 11);
        due("count " + count, x.count(count), m.count(count));
        int slot = any(-1, 3);
        if (random.nextInt(12) == 0) {
            due("hold " + slot, x.hold(slot) ? 1 : 0, m.hold(slot) ? 1 : 0);
        }
        if (random.nextInt(25) == 0) {
            due("restore " + slot, x.restore(slot) ? 1 : 0, m.restore(slot) ? 1 : 0);
        }
        if (random.nextInt(6) == 0) {
            allOfPage(any(0, m.room(0) - 1));
        }
    }

    private void allOfPage(int p) {
        for (int what = 0; what <= 4; what++) {
            due("page(" + p + ", " + what + ")", x.page(p, what), m.page(p, what));
        }
        for (int i = 0; i < m.page(p, 1) && calls < 500; i++) {
            for (int what = 0; what <= 3; what++) {
                due("entry(" + p + ", " + i + ", " + what + ")", x.entry(p, i, what), m.entry(p, i, what));
            }
        }
    }
}
