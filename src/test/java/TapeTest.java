/** Promises 2 to 5: the tape, and every FAULT with its place. */
public final class TapeTest {
    public static void main(String[] args) {
        feedAndBack();
        bytesInOrder();
        syntax();
        longestTokens();
        room();
        tokensMost();
        wrong();
        whichFaultIsTold();
        readEmptiesTheTape();
        Check.finish();
    }

    private static void feedAndBack() {
        TimeIndex x = new TimeIndex();
        for (int n = 1; n <= 100; n++) {
            Check.due("promise 2: feed " + n, x.feed(0, -1, 7, n, 0), 20 * n);
        }
        Check.due("promise 2: feed beyond 2,000", x.feed(1, 2, 3, 4, 5), -1);
        Check.due("promise 2: nothing came", x.count(6), 2000);
        Check.due("promise 3: back(1)", x.back(1), 1999);
        Check.due("promise 2: feed beyond by 19", x.feed(1, 2, 3, 4, 5), -1);
        Check.due("promise 3: back(0)", x.back(0), 1999);
        Check.due("promise 3: back(-1)", x.back(-1), -1);
        Check.due("promise 3: back(least)", x.back(Integer.MIN_VALUE), -1);
        Check.due("promise 3: back(2000)", x.back(2000), -1);
        Check.due("promise 3: back(most)", x.back(Integer.MAX_VALUE), -1);
        Check.due("promise 3: nothing went", x.count(6), 1999);
        Check.due("promise 3: back(18)", x.back(18), 1981);
        Check.due("promise 2: feed beyond by 1", x.feed(1, 2, 3, 4, 5), -1);
        Check.due("promise 3: back(1)", x.back(1), 1980);
        Check.due("promise 2: feed to 2,000", x.feed(1, 2, 3, 4, 5), 2000);
        Check.due("promise 3: back(2000)", x.back(2000), 0);
        Check.due("promise 3: back(1) of none", x.back(1), -1);
        Check.due("promise 3: back(0) of none", x.back(0), 0);
    }

    /** "put 1 2;" with the highest byte of a first; the bytes of e come last. */
    private static void bytesInOrder() {
        TimeIndex x = new TimeIndex();
        x.feed(0x70757420, 0x31203220, 0x3b707574, 0x20332034, 0x3b202020);
        Check.due("promise 2: text in order", x.read(), 0);
        Check.due("promise 2: first", x.value(1, 2), 2);
        Check.due("promise 2: second", x.value(3, 2), 4);
        x.feed(0x70757420, 0x31203220, 0x20202020, 0x20202020, 0x202020ff);
        Check.due("promise 2: a byte of 255", x.read(), 1);
        Check.due("promise 5: it stands last", x.place(), 19);
    }

    private static void fault(String text, int number, int place) {
        TimeIndex x = new TimeIndex();
        Check.due("promise 5: ahead of any read", x.place(), -1);
        Check.due("promise 4: read of " + text, Check.read(x, text), number);
        Check.due("promise 5: place in " + text, x.place(), place);
    }

    private static void syntax() {
        fault("", 0, -1);
        fault(" \t\r\n", 0, -1);
        fault("put", 1, 3);
        fault("put 1 2", 1, 7);
        fault("put 1 2  ", 1, 9);
        fault("put 1;", 1, 5);
        fault("put 1 2;;", 1, 8);
        fault("put 1 2 3;", 1, 8);
        fault("cut 1 2;", 1, 6);
        fault("cut ;", 1, 4);
        fault("cut 1;", 0, -1);
        fault("end;", 1, 0);
        fault("do 2; put 1 1;", 1, 14);
        fault("do 2; put 1 1; end", 1, 18);
        fault("do 2; end; end;", 1, 11);
        fault("do 2 put 1 1; end;", 1, 5);
        fault("do i; end;", 1, 3);
        fault("do (2); end;", 1, 3);
        fault("do;", 1, 2);
        fault("page;", 1, 4);
        fault("page 6", 1, 6);
        fault("page 6;", 0, -1);
        fault("page 6; page 6;", 1, 8);
        fault("put 1 2; page 6;", 1, 9);
        fault("do 1; page 6; end;", 1, 6);
        fault("pages 6;", 1, 0);
        fault("put page 1;", 1, 4);
        fault("put 1 - 2;", 1, 9);
        fault("put -1 2;", 1, 4);
        fault("put 1 2+;", 1, 8);
        fault("put 1 2*/3;", 1, 8);
        fault("put 1 2);", 1, 7);
        fault("put (1 2;", 1, 7);
        fault("put (1;", 1, 6);
        fault("put () 2;", 1, 5);
        fault("put (1)) 2;", 1, 7);
        fault("put(1)(2);", 0, -1);
        fault("put i j;cut time;cut live;cut last;cut pages;", 0, -1);
    }

    private static void longestTokens() {
        fault("put1 1;", 0, -1);
        fault("put1 1;put 2 3;do9;cut7;end;", 0, -1);
        fault("put 9999 0000;", 0, -1);
        fault("put 12345 1;", 1, 4);
        fault("put 1 00001;", 1, 6);
        fault("put ij 1;", 1, 4);
        fault("putt 1 1;", 1, 0);
        fault("pu t 1 1;", 1, 0);
        fault("put abcdefgh 1;", 1, 4);
        fault("put abcdefghi 1;", 1, 4);
        fault("put pagespages 1;", 1, 4);
        fault("PUT 1 1;", 1, 0);
        fault("put 1 1I;", 1, 7);
        fault("put 1 1:", 1, 7);
        fault("put 1 1&2;", 1, 7);
        fault("put" + (char) 11 + "1 1;", 1, 3);
        fault("put" + (char) 12 + "1 1;", 1, 3);
        fault("put" + (char) 160 + "1 1;", 1, 3);
        fault("put" + (char) 0 + "1 1;", 1, 3);
        fault("put" + (char) 9 + "1" + (char) 10 + "1" + (char) 13 + ";", 0, -1);
    }

    private static void room() {
        fault("put ((((((1)))))) 2;", 0, -1);
        fault("put (((((((1))))))) 2;", 2, 10);
        fault("put 1 ((((((1+(2", 2, 14);
        fault("put ((((((1)))))) ((((((2))))));", 0, -1);
        fault("put (((((1)+(2)*((3)))))) 2;", 0, -1);
        fault("do 1;do 1;do 1;put 1 1;end;end;end;", 0, -1);
        fault("do 1;do 1;do 1;do 1;end;end;end;end;", 2, 15);
        fault("do 1;do 1;do 1;end;do 1;end;end;end;", 0, -1);
        fault("do 1;do 1;do 1;end;end;end;do 1;end;", 0, -1);
    }

    private static void tokensMost() {
        String most = "put 1 2;".repeat(100);
        fault(most, 0, -1);
        fault(most + " \n", 0, -1);
        fault(most + "put", 2, 800);
        fault(most + " cut", 2, 801);
        fault(most + "do 1;end;", 2, 800);
        fault(most + "end", 1, 800);
        fault(most + ";", 1, 800);
        fault(most + "@", 1, 800);
        fault(most + "foo", 1, 800);
        String nearly = "do 1;" + "put 1 2;".repeat(99);
        fault(nearly + "end;", 2, 800);
        fault(nearly + "end@", 1, 800);
        fault(nearly + "end", 1, 800);
        fault("do 1;do 1;do 1;" + "cut 1;".repeat(130) + "cut do", 1, 799);
        fault("do 1;do 1;do 1;put 1 1+1;" + "cut 1;".repeat(128) + "do 1;", 2, 793);
    }

    private static void wrong() {
        fault("page 5;", 5, 5);
        fault("page 13;", 5, 5);
        fault("page 0;", 5, 5);
        fault("page 9999;", 5, 5);
        fault("page 12;", 0, -1);
        fault("page 0008;", 0, -1);
        fault("do 100; end;", 5, 3);
        fault("do 99; end;", 0, -1);
        fault("do 0; end;", 0, -1);
        fault("do 0099; end;", 0, -1);
        fault("put 9999 9999;", 0, -1);
    }

    private static void whichFaultIsTold() {
        fault("page 5; do 100; end;", 5, 5);
        fault("page 6; do 100; do 101; end; end;", 5, 11);
        fault("do 1; do 200; end; end; do 100; end;", 5, 9);
        fault("page 5; put 1;", 1, 13);
        fault("page 5; put (((((((1))))))) 1;", 2, 18);
        fault("page 5", 1, 6);
        fault("put (((((((1;", 2, 10);
        fault("put ((((((1;", 1, 11);
        fault("put @ (((((((", 1, 4);
    }

    private static void readEmptiesTheTape() {
        TimeIndex x = new TimeIndex();
        Check.due("promise 4: a FAULT", Check.read(x, "put 1"), 1);
        Check.due("promise 4: the tape is empty", x.count(6), 0);
        Check.due("promise 5: place", x.place(), 5);
        x.put(1, 1);
        Check.due("promise 5: place of the latest read", x.place(), 5);
        Check.feed(x, "put 2 2;");
        Check.due("promise 5: nothing was read yet", x.place(), 5);
        Check.due("promise 4: no FAULT", x.read(), 0);
        Check.due("promise 5: none", x.place(), -1);
        Check.due("promise 4: the tape is empty again", x.count(6), 0);
        Check.due("promise 4: an empty tape", x.read(), 0);
        Check.due("promise 4: tells an empty index", x.count(0), 0);
    }
}
