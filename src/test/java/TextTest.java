/** Promise 4 with the terms of ==== I: what a text without a FAULT does. */
public final class TextTest {
    public static void main(String[] args) {
        pageSizes();
        arithmetic();
        keysOfTexts();
        rounds();
        emptyRounds();
        variables();
        begunMost();
        startsAfresh();
        faultsChangeNothing();
        Check.finish();
    }

    private static void pageSizes() {
        int[] weak = {1, 1, 2, 2, 2, 2, 3};
        for (int b = 6; b <= 12; b++) {
            TimeIndex x = Check.told("page " + b + ";");
            Check.due("B", x.count(2), b);
            Check.due("WEAK of " + b, x.count(3), weak[b - 6]);
            Check.due("room in the empty ROOT", x.held(0, 3), b);
        }
        Check.due("B without PAGE", Check.told("put 1 1;").count(2), 8);
    }

    private static int worth(String e) {
        TimeIndex x = Check.told("put 7 " + e + ";");
        return x.value(7, 1);
    }

    private static void arithmetic() {
        Check.due("2+3*4", worth("2+3*4"), 14);
        Check.due("(2+3)*4", worth("(2+3)*4"), 20);
        Check.due("10-3-2", worth("10-3-2"), 5);
        Check.due("10-(3-2)", worth("10-(3-2)"), 9);
        Check.due("100/10*2", worth("100/10*2"), 20);
        Check.due("100/(10*2)", worth("100/(10*2)"), 5);
        Check.due("17%10*3", worth("17%10*3"), 21);
        Check.due("3*17%10", worth("3*17%10"), 1);
        Check.due("(0-7)/2", worth("(0-7)/2"), -3);
        Check.due("7/(0-2)", worth("7/(0-2)"), -3);
        Check.due("(0-7)%3", worth("(0-7)%3"), -1);
        Check.due("7%(0-3)", worth("7%(0-3)"), 1);
        Check.due("5/0", worth("5/0"), 0);
        Check.due("5%0", worth("5%0"), 0);
        Check.due("1+5/0+1", worth("1+5/0+1"), 2);
        Check.due("5/0*3+2", worth("5/0*3+2"), 2);
        Check.due("9999*9999*9999", worth("9999*9999*9999"), 9999 * 9999 * 9999);
        Check.due("2^31", worth("8192*8192*32"), Integer.MIN_VALUE);
        Check.due("2^31-1", worth("8192*8192*32-1"), Integer.MAX_VALUE);
        Check.due("least/-1", worth("8192*8192*32/(0-1)"), Integer.MIN_VALUE);
        Check.due("least%-1", worth("8192*8192*32%(0-1)"), 0);
        Check.due("six deep", worth("((((((1+2)*2)*2)*2)*2)*2)"), 96);
        Check.due("0012", worth("0012"), 12);
    }

    private static void keysOfTexts() {
        TimeIndex x = Check.told("put 0-1 1; put 1000 2; put 2345 3; put 0-1000 4; put 0-2001 5;");
        Check.due("key -1", x.versions(999), 2);
        Check.due("key -2001", x.value(999, 5), 5);
        Check.due("key 1000", x.value(0, 2), 2);
        Check.due("key -1000", x.value(0, 4), 4);
        Check.due("key 2345", x.value(345, 5), 3);
        x = Check.told("put 8192*8192*32 1; put 5 5; cut 0-995;");
        Check.due("key of the least int", x.has(Math.floorMod(Integer.MIN_VALUE, 1000), 3), 1);
        Check.due("cut of -995", x.has(5, 3), 0);
    }

    private static void rounds() {
        TimeIndex x = Check.told("put 900+i j; do 2; put 800+i j; do 3; put 10*j+i 1; do 2; put 500+time i*10+j; "
                + "end; put 600+10*j+i 2; end; put 700+i j; end; put 901+i j;");
        int[] keys = new int[x.count(0)];
        for (int t = 1; t <= keys.length; t++) {
            for (int k = 0; k < 1000; k++) {
                if (x.version(k, x.versions(k) - 1, 0) == t) {
                    keys[t - 1] = k;
                }
            }
        }
        Check.due("rounds", keys, 900,
                800, 0, 503, 504, 600, 1, 507, 508, 601, 2, 511, 512, 602, 700,
                801, 10, 517, 518, 610, 11, 521, 522, 611, 12, 525, 526, 612, 701, 901);
        Check.due("i*10+j in the third DO", x.value(525, 30), 12 - 10);
        Check.due("i*10+j one round on", x.value(526, 30), 12);
        Check.due("j in the first DO", x.value(801, 30), 0);
    }

    private static void emptyRounds() {
        TimeIndex x = Check.told("do 0; put 1 1; end; do 99; do 0; put 2 2; end; end; put 3 i;");
        Check.due("no rounds, no times", x.count(0), 1);
        Check.due("one begun", x.count(4), 1);
        String endless = "do 99;do 99;" + "do 99;end;".repeat(70) + "end;end;put 4 4;";
        x = Check.told(endless);
        Check.due("rounds without a PUT come to an end", x.value(4, 1), 4);
        x = Check.told("do 3; do 5; end; put i i; do 0; put 9 9; end; do 2; do 2; end; end; end;");
        Check.due("rounds beside empty ones", x.count(1), 3);
        Check.due("their times", x.count(0), 3);
    }

    private static void variables() {
        TimeIndex x = Check.told("put 1 time; put 2 time; cut 1; cut 1; put 3 time;");
        Check.due("time at first", x.value(1, 1), 0);
        Check.due("time then", x.value(2, 2), 1);
        Check.due("a CUT that did nothing takes no time", x.value(3, 4), 3);
        x = Check.told("put live+50 live; put live+50 live; put 50 live; cut 51; put 52 live;");
        Check.due("live at first", x.value(50, 1), 0);
        Check.due("live of one", x.value(51, 2), 1);
        Check.due("live of two", x.value(50, 3), 2);
        Check.due("live behind a CUT", x.value(52, 5), 1);
        x = Check.told("put last+5 last; put last+5 last; cut 5; put last+0-1011 last; put last last;");
        Check.due("last without", x.value(5, 1), 0);
        Check.due("last of one", x.value(10, 2), 5);
        Check.due("a CUT is no PUT; the KEY is 999", x.version(999, 0, 2), 10);
        Check.due("last is a KEY", x.value(999, 5), 999);
        x = Check.told("page 6; do 7; put i pages; end; put 50 pages;");
        Check.due("pages at first", x.value(0, 1), 1);
        Check.due("pages ahead of the PUT that splits", x.value(6, 7), 1);
        Check.due("pages behind it", x.value(50, 8), 4);
    }

    private static void begunMost() {
        TimeIndex x = Check.told("do 99; do 99; put 1 time; end; end; put 2 2;");
        Check.due("400 begun", x.count(4), 400);
        Check.due("no more", x.has(2, x.count(0)), 0);
        Check.due("none idle", x.count(5), 0);
        Check.due("400 times", x.count(0), 400);
        x = Check.told("do 99; do 3; cut i; end; end; do 99; put i i; cut 500; end; put 999 1;");
        Check.due("CUTS that do nothing are begun, too", x.count(4), 400);
        Check.due("those idle", x.count(5), 297 + 51);
        Check.due("times of the others", x.count(0), 52);
        x = Check.told("page 6; do 99; do 4; put 4*j+i 1; end; end; cut 0;");
        Check.due("begun, though refused", x.count(4), 397);
        Check.due("time and idle ones are all", x.count(0) + x.count(5), 397);
        Check.due("some were refused", x.count(5) > 0, true);
        Check.due("280 pages or some more", x.room(0) >= 280 && x.room(0) < 300, true);
    }

    private static void startsAfresh() {
        TimeIndex x = new TimeIndex();
        x.put(1, 1);
        x.put(2, 2);
        x.hold(0);
        x.hold(2);
        Check.due("read", Check.read(x, "page 7; put 5 5; cut 6;"), 0);
        Check.due("what was is gone", x.many(0, 999, 1), 1);
        Check.due("time", x.count(0), 1);
        Check.due("B", x.count(2), 7);
        Check.due("SLOTS hold nothing", x.count(7), 0);
        Check.due("restore", x.restore(0), false);
        Check.due("begun", x.count(4), 2);
        Check.due("idle", x.count(5), 1);
        Check.due("ROOTS", x.room(3), 1);
        Check.due("B is 8 again", Check.read(x, "") == 0 ? x.count(2) : -1, 8);
        Check.due("none begun", x.count(4), 0);
        Check.due("none idle", x.count(5), 0);
        Check.due("one page", x.room(0), 1);
        Check.due("no ENTRY", x.room(1), 0);
    }

    private static void faultsChangeNothing() {
        TimeIndex x = Check.told("page 6; do 9; put i i; end; cut 100;");
        x.hold(1);
        x.put(50, 3);
        String[] texts = {"page 7; put 1 2", "page 7; do 100; put 1 1; end;", "put (((((((1))))))) 1;"};
        int[] faults = {1, 5, 2};
        for (int n = 0; n < texts.length; n++) {
            Check.due("FAULT", Check.read(x, texts[n]), faults[n]);
            Check.due("B", x.count(2), 6);
            Check.due("time", x.count(0), 10);
            Check.due("begun by the text ahead", x.count(4), 10);
            Check.due("idle in it", x.count(5), 1);
            Check.due("SLOTS", x.count(7), 1);
            Check.due("value", x.value(50, 10), 3);
            Check.due("pages", x.room(0), 6);
            Check.due("tape", x.count(6), 0);
        }
    }
}
