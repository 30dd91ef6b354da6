import java.lang.management.ManagementFactory;
import java.util.Random;

/**
 * LANGUAGE.md's rules 7 and 12: no call throws, whatever its arguments and the state, and what a run makes
 * is small: all calls of one run live in one room of 7.3 million elements.
 */
public final class RoomTest {
    private static final com.sun.management.ThreadMXBean BEAN =
            (com.sun.management.ThreadMXBean) ManagementFactory.getThreadMXBean();

    public static void main(String[] args) {
        newObjects();
        holdsOfALargeIndex();
        textsAgainAndAgain();
        growth();
        storm();
        Check.finish();
    }

    private static long made() {
        return BEAN.getThreadAllocatedBytes(Thread.currentThread().getId());
    }

    private static void small(String what, long bytes, long most) {
        if (bytes > most) {
            System.out.println(what + " made " + bytes + " bytes");
        }
        Check.due("rule 12: " + what, bytes <= most, true);
    }

    private static void newObjects() {
        long before = made();
        for (int n = 0; n < 100; n++) {
            new TimeIndex().count(0);
        }
        small("a hundred objects", made() - before, 100 * 30_000);
    }

    private static void holdsOfALargeIndex() {
        TimeIndex x = Check.told("page 12; do 99; do 4; put j*41+i*333 1; end; end;");
        x.hold(0);
        x.hold(1);
        x.hold(2);
        long before = made();
        for (int n = 0; n < 500; n++) {
            x.hold(n % 3);
            x.restore((n + 1) % 3);
        }
        small("a thousand holds and restores", made() - before, 10_000);
    }

    private static void textsAgainAndAgain() {
        TimeIndex x = new TimeIndex();
        String text = "page 6; do 99; do 4; put j*41+i*333 1; end; end;";
        Check.read(x, text);
        long before = made();
        for (int n = 0; n < 170; n++) {
            x.feed(0x70616765, 0x20363b64, 0x6f203939, 0x3b707574, 0x20692a37);
            x.feed(0x2b6a2069, 0x3b656e64, 0x3b202020, 0x20202020, 0x20202020);
            Check.due("read", x.read(), 0);
        }
        small("170 texts", made() - before, 100_000);
        Check.due("the last one was told", x.count(4), 99);
    }

    private static void growth() {
        long before = made();
        TimeIndex x = new TimeIndex();
        for (int n = 0; n < 512; n++) {
            x.put(n * 37 % 1000, n);
            x.hold(n % 3);
        }
        small("512 puts, all held", made() - before, 2_000_000);
    }

    /** Far more than 512 calls, and arguments of all kinds: what is answered is not looked at here. */
    private static void storm() {
        Random random = new Random(7);
        for (int round = 0; round < 40; round++) {
            TimeIndex x = round % 2 == 0 ? new TimeIndex()
                    : Check.told("page " + (6 + round % 7) + "; do 99; do 3; put i*211+j*17 i; cut j*34; end; end;");
            for (int n = 0; n < 3000; n++) {
                int[] a = new int[5];
                for (int i = 0; i < 5; i++) {
                    a[i] = argument(random, x.count(0));
                }
                callAll(x, a, random.nextInt(37));
            }
            Check.due("it still answers", x.count(2) >= 6, true);
        }
    }

    private static int argument(Random random, int now) {
        int[] odd = {-1, 0, 1, 2, 3, 999, 1000, now, now + 1, Integer.MIN_VALUE, Integer.MAX_VALUE};
        int kind = random.nextInt(10);
        return kind < 2 ? random.nextInt() : kind < 6 ? random.nextInt(1000) : odd[random.nextInt(odd.length)];
    }

    private static void callAll(TimeIndex x, int[] a, int kind) {
        switch (kind) {
            case 0: x.feed(a[0], a[1], a[2], a[3], a[4]); break;
            case 1: x.back(a[0]); break;
            case 2: if (a[0] % 100 == 0) { x.read(); } break;
            case 3: x.place(); break;
            case 4: x.cut(a[0]); break;
            case 5: x.has(a[0], a[1]); break;
            case 6: x.value(a[0], a[1]); break;
            case 7: x.since(a[0], a[1]); break;
            case 8: x.many(a[0], a[1], a[2]); break;
            case 9: x.sum(a[0], a[1], a[2]); break;
            case 10: x.nth(a[0], a[1]); break;
            case 11: x.next(a[0], a[1]); break;
            case 12: x.prior(a[0], a[1]); break;
            case 13: x.differ(a[0], a[1], a[2], a[3]); break;
            case 14: x.ever(a[0], a[1], a[2], a[3]); break;
            case 15: x.stay(a[0], a[1], a[2]); break;
            case 16: x.versions(a[0]); break;
            case 17: x.version(a[0], a[1], a[2]); break;
            case 18: x.peak(a[0], a[1], a[2]); break;
            case 19: x.root(a[0]); break;
            case 20: x.deep(a[0]); break;
            case 21: x.leaf(a[0], a[1]); break;
            case 22: x.reads(a[0], a[1], a[2]); break;
            case 23: x.thin(a[0]); break;
            case 24: x.way(a[0], a[1], a[2]); break;
            case 25: x.longest(a[0], a[1]); break;
            case 26: x.busiest(a[0], a[1], a[2]); break;
            case 27: x.gap(a[0], a[1]); break;
            case 28: x.held(a[0], a[1]); break;
            case 29: x.page(a[0], a[1]); break;
            case 30: x.entry(a[0], a[1], a[2]); break;
            case 31: x.room(a[0]); break;
            case 32: x.hold(a[0]); break;
            case 33: x.restore(a[0]); break;
            case 34: x.count(a[0]); break;
            default: x.put(a[0], a[1]); break;
        }
    }
}
