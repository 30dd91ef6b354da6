import java.util.ArrayList;
import java.util.HashMap;
import java.util.List;
import java.util.Map;
import java.util.TreeMap;
import java.util.TreeSet;

/**
 * The document once more, written in another way than the program: pages and ENTRIES are objects, a page
 * is REPLACED by recursion, and every question is answered by walking the pages as of its time.
 */
final class Model {
    static final class Entry {
        int key;
        int value;
        int from;
        int to = -2;
        Page below;

        Entry(int key, int value, Page below, int from) {
            this.key = key;
            this.value = value;
            this.below = below;
            this.from = from;
        }

        boolean lives(int t) {
            return from <= t && (to == -2 || t < to);
        }
    }

    static final class Page {
        int number;
        boolean leaf;
        int made;
        int ended = -2;
        List<Entry> entries = new ArrayList<>();

        TreeMap<Integer, Entry> living(int t) {
            TreeMap<Integer, Entry> map = new TreeMap<>();
            for (Entry e : entries) {
                if (e.lives(t)) {
                    map.put(e.key, e);
                }
            }
            return map;
        }
    }

    static final class World {
        int b = 8;
        int time = 0;
        List<Page> pages = new ArrayList<>();
        TreeMap<Integer, Page> roots = new TreeMap<>();

        World(int b) {
            this.b = b;
            roots.put(0, make(true));
        }

        /** All of another one, made again. */
        World(World other) {
            b = other.b;
            time = other.time;
            for (Page p : other.pages) {
                Page copy = new Page();
                copy.number = p.number;
                copy.leaf = p.leaf;
                copy.made = p.made;
                copy.ended = p.ended;
                pages.add(copy);
            }
            for (Page p : other.pages) {
                for (Entry e : p.entries) {
                    Page below = e.below == null ? null : pages.get(e.below.number);
                    Entry copy = new Entry(e.key, e.value, below, e.from);
                    copy.to = e.to;
                    pages.get(p.number).entries.add(copy);
                }
            }
            other.roots.forEach((t, p) -> roots.put(t, pages.get(p.number)));
        }

        Page make(boolean leaf) {
            Page p = new Page();
            p.number = pages.size();
            p.leaf = leaf;
            p.made = time;
            pages.add(p);
            return p;
        }

        Page rootAt(int t) {
            return roots.floorEntry(t).getValue();
        }

        List<Page> way(int key, int t) {
            List<Page> way = new ArrayList<>();
            Page p = rootAt(t);
            way.add(p);
            while (!p.leaf) {
                p = p.living(t).floorEntry(key).getValue().below;
                way.add(p);
            }
            return way;
        }

        TreeMap<Integer, Entry> alive(int t) {
            TreeMap<Integer, Entry> all = new TreeMap<>();
            for (Page p : reached(0, 999, t)) {
                if (p.leaf) {
                    all.putAll(p.living(t));
                }
            }
            return all;
        }

        List<Page> reached(int lo, int hi, int t) {
            List<Page> found = new ArrayList<>();
            reach(rootAt(t), lo, hi, t, found);
            return found;
        }

        private void reach(Page p, int lo, int hi, int t, List<Page> found) {
            found.add(p);
            if (p.leaf) {
                return;
            }
            List<Entry> row = new ArrayList<>(p.living(t).values());
            for (int n = 0; n < row.size(); n++) {
                int first = n == 0 ? 0 : row.get(n).key;
                int last = n == row.size() - 1 ? 999 : row.get(n + 1).key - 1;
                boolean meets = false;
                for (int k = lo; k <= hi; k++) {
                    meets |= first <= k && k <= last;
                }
                if (meets) {
                    reach(row.get(n).below, lo, hi, t, found);
                }
            }
        }

        boolean put(int key, int value) {
            if (pages.size() >= 280) {
                return false;
            }
            List<Page> way = way(key, time);
            Page leaf = way.get(way.size() - 1);
            Entry old = leaf.living(time).get(key);
            time++;
            if (old != null) {
                old.to = time;
            }
            Entry fresh = new Entry(key, value, null, time);
            if (leaf.entries.size() < b) {
                leaf.entries.add(fresh);
            } else {
                TreeMap<Integer, Entry> row = leaf.living(time);
                row.put(key, fresh);
                replace(way, row);
            }
            return true;
        }

        boolean cut(int key) {
            List<Page> way = way(key, time);
            Page leaf = way.get(way.size() - 1);
            Entry old = leaf.living(time).get(key);
            if (old == null || pages.size() >= 280) {
                return false;
            }
            time++;
            old.to = time;
            if (way.size() > 1 && leaf.living(time).size() < b / 4) {
                replace(way, leaf.living(time));
            }
            return true;
        }

        /** The last page of the way is REPLACED. */
        private void replace(List<Page> way, TreeMap<Integer, Entry> row) {
            Page p = way.get(way.size() - 1);
            if (way.size() == 1) {
                List<Page> made = makeOf(row, p.leaf);
                p.ended = time;
                Page top = made.get(0);
                if (made.size() == 2) {
                    top = make(false);
                    top.entries.add(new Entry(0, 0, made.get(0), time));
                    top.entries.add(new Entry(made.get(1).entries.get(0).key, 0, made.get(1), time));
                }
                roots.put(time, top);
                return;
            }
            List<Page> wayAbove = way.subList(0, way.size() - 1);
            Page q = wayAbove.get(wayAbove.size() - 1);
            TreeMap<Integer, Entry> above = q.living(time);
            Entry mine = null;
            for (Entry e : above.values()) {
                if (e.below == p) {
                    mine = e;
                }
            }
            int bound = mine.key;
            TreeMap<Integer, Entry> whole = new TreeMap<>(row);
            if (row.size() < b / 4 + 1 && above.size() > 1) {
                Map.Entry<Integer, Entry> beside = above.higherEntry(mine.key);
                if (beside == null) {
                    beside = above.lowerEntry(mine.key);
                    bound = beside.getKey();
                }
                whole.putAll(beside.getValue().below.living(time));
                beside.getValue().to = time;
                beside.getValue().below.ended = time;
            }
            mine.to = time;
            p.ended = time;
            List<Entry> fresh = new ArrayList<>();
            for (Page m : makeOf(whole, p.leaf)) {
                fresh.add(new Entry(fresh.isEmpty() ? bound : m.entries.get(0).key, 0, m, time));
            }
            if (q.entries.size() + fresh.size() > b) {
                TreeMap<Integer, Entry> next = q.living(time);
                fresh.forEach(e -> next.put(e.key, e));
                replace(wayAbove, next);
                return;
            }
            q.entries.addAll(fresh);
            TreeMap<Integer, Entry> left = q.living(time);
            if (wayAbove.size() == 1) {
                if (left.size() == 1) {
                    q.ended = time;
                    roots.put(time, left.firstEntry().getValue().below);
                }
            } else if (left.size() < b / 4) {
                replace(wayAbove, left);
            }
        }

        private List<Page> makeOf(TreeMap<Integer, Entry> row, boolean leaf) {
            List<Entry> all = new ArrayList<>(row.values());
            List<Page> made = new ArrayList<>();
            int half = all.size() > b - 2 ? all.size() / 2 : all.size();
            made.add(makeOf(all.subList(0, half), leaf));
            if (half < all.size()) {
                made.add(makeOf(all.subList(half, all.size()), leaf));
            }
            return made;
        }

        private Page makeOf(List<Entry> row, boolean leaf) {
            Page p = make(leaf);
            for (Entry e : row) {
                p.entries.add(new Entry(e.key, e.value, e.below, e.from));
            }
            return p;
        }
    }

    private World w = new World(8);
    private final World[] slots = new World[3];
    private final StringBuilder tape = new StringBuilder();
    private int place = -1;
    private int begun = 0;
    private int idle = 0;
    private final Map<Integer, TreeMap<Integer, Entry>> known = new HashMap<>();

    /** Many questions go through all times: what lived is worked out once for as long as nothing happens. */
    private TreeMap<Integer, Entry> aliveAt(int t) {
        return known.computeIfAbsent(t, time -> w.alive(time));
    }

    int feed(int a, int b, int c, int d, int e) {
        if (tape.length() + 20 > 2000) {
            return -1;
        }
        for (int word : new int[] {a, b, c, d, e}) {
            tape.append((char) (word >>> 24)).append((char) (word >>> 16 & 255));
            tape.append((char) (word >>> 8 & 255)).append((char) (word & 255));
        }
        return tape.length();
    }

    int back(int n) {
        if (n < 0 || n > tape.length()) {
            return -1;
        }
        tape.setLength(tape.length() - n);
        return tape.length();
    }

    int read() {
        ModelText text = new ModelText(tape.toString());
        tape.setLength(0);
        place = text.place;
        if (text.fault != 0) {
            return text.fault;
        }
        known.clear();
        w = new World(text.b);
        java.util.Arrays.fill(slots, null);
        text.tell(w);
        begun = text.begun;
        idle = text.idle;
        return 0;
    }

    int place() {
        return place;
    }

    int put(int key, int value) {
        known.clear();
        return isKey(key) && w.put(key, value) ? w.time : -1;
    }

    int cut(int key) {
        known.clear();
        return isKey(key) && w.cut(key) ? w.time : -1;
    }

    private static boolean isKey(int key) {
        return 0 <= key && key <= 999;
    }

    private boolean isTime(int t) {
        return 0 <= t && t <= w.time;
    }

    private boolean isRange(int lo, int hi) {
        return isKey(lo) && isKey(hi);
    }

    private Entry leafEntry(int key, int t) {
        List<Page> way = w.way(key, t);
        return way.get(way.size() - 1).living(t).get(key);
    }

    private TreeMap<Integer, Entry> inRange(int lo, int hi, int t) {
        return lo > hi ? new TreeMap<>() : new TreeMap<>(aliveAt(t).subMap(lo, true, hi, true));
    }

    int has(int key, int t) {
        return !isKey(key) || !isTime(t) ? -1 : leafEntry(key, t) == null ? 0 : 1;
    }

    int value(int key, int t) {
        Entry e = !isKey(key) || !isTime(t) ? null : leafEntry(key, t);
        return e == null ? 0 : e.value;
    }

    int since(int key, int t) {
        if (!isKey(key) || !isTime(t)) {
            return -1;
        }
        Entry e = leafEntry(key, t);
        return e == null ? -2 : e.from;
    }

    int many(int lo, int hi, int t) {
        return !isRange(lo, hi) || !isTime(t) ? -1 : inRange(lo, hi, t).size();
    }

    int sum(int lo, int hi, int t) {
        return !isRange(lo, hi) || !isTime(t) ? 0
                : (int) inRange(lo, hi, t).values().stream().mapToLong(e -> e.value).sum();
    }

    int nth(int i, int t) {
        if (i < 0 || !isTime(t)) {
            return -1;
        }
        List<Integer> keys = new ArrayList<>(aliveAt(t).keySet());
        return i < keys.size() ? keys.get(i) : -2;
    }

    int next(int key, int t) {
        if (!isKey(key) || !isTime(t)) {
            return -1;
        }
        Integer k = aliveAt(t).ceilingKey(key);
        return k == null ? -2 : k;
    }

    int prior(int key, int t) {
        if (!isKey(key) || !isTime(t)) {
            return -1;
        }
        Integer k = aliveAt(t).floorKey(key);
        return k == null ? -2 : k;
    }

    int differ(int lo, int hi, int t, int u) {
        if (!isRange(lo, hi) || !isTime(t) || !isTime(u)) {
            return -1;
        }
        TreeMap<Integer, Entry> one = inRange(lo, hi, t);
        TreeMap<Integer, Entry> other = inRange(lo, hi, u);
        TreeSet<Integer> both = new TreeSet<>(one.keySet());
        both.addAll(other.keySet());
        int n = 0;
        for (int k : both) {
            Entry a = one.get(k);
            Entry b = other.get(k);
            n += a == null || b == null || a.value != b.value ? 1 : 0;
        }
        return n;
    }

    int ever(int lo, int hi, int t, int u) {
        if (!isRange(lo, hi) || !isTime(t) || !isTime(u) || u < t) {
            return -1;
        }
        TreeSet<Integer> keys = new TreeSet<>();
        for (int time = t; time <= u; time++) {
            keys.addAll(inRange(lo, hi, time).keySet());
        }
        return keys.size();
    }

    int stay(int key, int t, int u) {
        if (!isKey(key) || !isTime(t) || !isTime(u) || u < t) {
            return -1;
        }
        int n = 0;
        for (int time = t; time <= u; time++) {
            n += leafEntry(key, time) == null ? 0 : 1;
        }
        return n;
    }

    /** By FROM: TO and value, looked for in all copies. */
    private TreeMap<Integer, int[]> versionsOf(int key) {
        TreeMap<Integer, int[]> found = new TreeMap<>();
        for (Page p : w.pages) {
            for (Entry e : p.entries) {
                if (p.leaf && e.key == key) {
                    int[] v = found.computeIfAbsent(e.from, f -> new int[] {-2, e.value});
                    v[0] = e.to != -2 ? e.to : v[0];
                }
            }
        }
        return found;
    }

    int versions(int key) {
        return isKey(key) ? versionsOf(key).size() : -1;
    }

    int version(int key, int i, int what) {
        if (!isKey(key) || what < 0 || what > 2) {
            return -1000;
        }
        TreeMap<Integer, int[]> all = versionsOf(key);
        if (i < 0 || i >= all.size()) {
            return -1000;
        }
        int from = new ArrayList<>(all.keySet()).get(i);
        return what == 0 ? from : all.get(from)[what - 1];
    }

    int peak(int lo, int hi, int what) {
        if (!isRange(lo, hi) || what < 0 || what > 1) {
            return -1;
        }
        int time = 0;
        int most = 0;
        for (int t = 0; t <= w.time; t++) {
            int n = inRange(lo, hi, t).size();
            if (n > most) {
                most = n;
                time = t;
            }
        }
        return what == 0 ? time : most;
    }

    int root(int t) {
        return isTime(t) ? w.rootAt(t).number : -1;
    }

    int deep(int t) {
        return isTime(t) ? w.way(999, t).size() : -1;
    }

    int leaf(int key, int t) {
        if (!isKey(key) || !isTime(t)) {
            return -1;
        }
        List<Page> way = w.way(key, t);
        return way.get(way.size() - 1).number;
    }

    int reads(int lo, int hi, int t) {
        return isRange(lo, hi) && isTime(t) ? w.reached(lo, hi, t).size() : -1;
    }

    int thin(int t) {
        if (!isTime(t)) {
            return -1;
        }
        int n = 0;
        for (Page p : w.reached(0, 999, t)) {
            n += p != w.rootAt(t) && p.living(t).size() < w.b / 4 ? 1 : 0;
        }
        return n;
    }

    int way(int key, int t, int i) {
        if (!isKey(key) || !isTime(t)) {
            return -1;
        }
        List<Page> way = w.way(key, t);
        return i < 0 || i >= way.size() ? -1 : way.get(i).number;
    }

    int longest(int key, int what) {
        if (!isKey(key) || what < 0 || what > 1) {
            return -1;
        }
        int number = -2;
        int length = -2;
        int n = 0;
        for (Map.Entry<Integer, int[]> v : versionsOf(key).entrySet()) {
            int to = v.getValue()[0] == -2 ? w.time + 1 : v.getValue()[0];
            if (to - v.getKey() > length) {
                length = to - v.getKey();
                number = n;
            }
            n++;
        }
        return what == 0 ? number : length;
    }

    int busiest(int lo, int hi, int what) {
        if (!isRange(lo, hi) || what < 0 || what > 1) {
            return -1;
        }
        Map<Integer, TreeSet<Integer>> froms = new TreeMap<>();
        for (Page p : w.pages) {
            for (Entry e : p.entries) {
                if (p.leaf && lo <= e.key && e.key <= hi) {
                    froms.computeIfAbsent(e.key, k -> new TreeSet<>()).add(e.from);
                }
            }
        }
        int key = -2;
        int most = 0;
        for (Map.Entry<Integer, TreeSet<Integer>> f : froms.entrySet()) {
            if (f.getValue().size() > most) {
                most = f.getValue().size();
                key = f.getKey();
            }
        }
        return what == 0 || key == -2 ? key : most;
    }

    int gap(int t, int what) {
        if (!isTime(t) || what < 0 || what > 1) {
            return -1;
        }
        List<Integer> keys = new ArrayList<>(aliveAt(t).keySet());
        int lesser = -2;
        int far = -2;
        for (int n = 1; n < keys.size(); n++) {
            if (keys.get(n) - keys.get(n - 1) > far) {
                far = keys.get(n) - keys.get(n - 1);
                lesser = keys.get(n - 1);
            }
        }
        return what == 0 ? lesser : far;
    }

    int held(int t, int what) {
        if (!isTime(t) || what < 0 || what > 3) {
            return -1;
        }
        int[] all = new int[4];
        for (Page p : w.reached(0, 999, t)) {
            all[p.leaf ? 0 : 1]++;
            all[2] += p.living(t).size();
            all[3] += w.b - p.entries.size();
        }
        return all[what];
    }

    int page(int page, int what) {
        if (page < 0 || page >= w.pages.size()) {
            return -1;
        }
        Page p = w.pages.get(page);
        switch (what) {
            case 0: return p.leaf ? 1 : 0;
            case 1: return p.entries.size();
            case 2: return (int) p.entries.stream().filter(e -> e.to == -2).count();
            case 3: return p.made;
            case 4: return p.ended;
            default: return -1;
        }
    }

    int entry(int page, int i, int what) {
        if (page < 0 || page >= w.pages.size() || i < 0 || i >= w.pages.get(page).entries.size()) {
            return -1000;
        }
        Entry e = w.pages.get(page).entries.get(i);
        switch (what) {
            case 0: return e.key;
            case 1: return e.from;
            case 2: return e.to;
            case 3: return e.below != null ? e.below.number : e.value;
            default: return -1000;
        }
    }

    int room(int what) {
        long entries = w.pages.stream().mapToInt(p -> p.entries.size()).sum();
        switch (what) {
            case 0: return w.pages.size();
            case 1: return (int) entries;
            case 2: return (int) w.pages.stream().filter(p -> p.ended != -2).count();
            case 3: return w.roots.size();
            case 4: return (int) w.pages.stream().filter(p -> p.leaf)
                    .flatMap(p -> p.entries.stream().filter(e -> p.made > e.from)).count();
            case 5: return w.time == 0 ? 0 : (int) (entries * 1000 / w.time);
            default: return -1;
        }
    }

    boolean hold(int slot) {
        if (slot < 0 || slot > 2) {
            return false;
        }
        slots[slot] = new World(w);
        return true;
    }

    boolean restore(int slot) {
        if (slot < 0 || slot > 2 || slots[slot] == null) {
            return false;
        }
        known.clear();
        w = new World(slots[slot]);
        return true;
    }

    int count(int what) {
        TreeMap<Integer, Entry> alive = aliveAt(w.time);
        switch (what) {
            case 0: return w.time;
            case 1: return alive.size();
            case 2: return w.b;
            case 3: return w.b / 4;
            case 4: return begun;
            case 5: return idle;
            case 6: return tape.length();
            case 7: return (slots[0] == null ? 0 : 1) + (slots[1] == null ? 0 : 1) + (slots[2] == null ? 0 : 1);
            case 8: return alive.isEmpty() ? -2 : alive.lastKey();
            case 9: return alive.isEmpty() ? -2 : alive.firstKey();
            case 10: return (int) w.pages.stream().filter(p -> p.made == w.time).count();
            default: return -1;
        }
    }
}
