/**
 * Promises 2 to 5 and the terms of ==== I, sentence by sentence: what is too small, too large, empty, full or
 * wraps around. What a wrong answer prints begins with the sentence's words.
 */
public final class TextEdgesTest {
    private static final int LEAST = Integer.MIN_VALUE;
    private static final int MOST = Integer.MAX_VALUE;

    public static void main(String[] args) {
        textOf2000Bytes();
        blanksBetweenOrNot();
        longestThatCanBe();
        wordsInQuotes();
        intsOfOneToFourDigits();
        textMayBeEmpty();
        pageOf6To12();
        do0To99();
        roundsOfNothing();
        doWithinOneAnother();
        openWithinOneAnother();
        wrapOf32Bits();
        roundedTowards0();
        restWithTheSignOfTheFirst();
        dividedBy0();
        roundsFrom0On();
        roundsOfTheTextAhead();
        readsAfreshBehindAFault();
        variablesAsTheyAre();
        keyBy1000();
        firstFaultByPlace();
        leastOfOnePlace();
        token401();
        wrongIfThereIsNoOther();
        faultChangesNothing();
        emptyIndexInPlace();
        begun400();
        feedInOrder();
        feedTo2000();
        backOfTheTape();
        readEmptiesTheTape();
        placeOfTheLatestRead();
        Check.finish();
    }

    private static void fault(String sentence, String text, int number, int place) {
        TimeIndex x = new TimeIndex();
        Check.due(sentence + " | read of " + text, Check.read(x, text), number);
        Check.due(sentence + " | place in " + text, x.place(), place);
    }

    private static void good(String sentence, String text) {
        fault(sentence, text, 0, -1);
    }

    /** What E comes to, as the value of a PUT. */
    private static void worth(String sentence, String e, int want) {
        TimeIndex x = Check.told("put 7 " + e + ";");
        Check.due(sentence + " | " + e, x.value(7, 1), want);
    }

    private static void textOf2000Bytes() {
        String s = "A TEXT has 2,000 bytes at most";
        TimeIndex x = Check.told(" ".repeat(1992) + "put 1 2;");
        Check.due(s + " | told to its last byte", x.value(1, 1), 2);
        fault(s, " ".repeat(1999) + "@", 1, 1999);
        fault(s, " ".repeat(1993) + "put 1 2", 1, 2000);
        fault(s, "put 1 2" + " ".repeat(1993), 1, 2000);
        good(s, " ".repeat(2000));
    }

    /** Every byte there is, between an INT and a ; of a CUT. */
    private static void blanksBetweenOrNot() {
        String s = "with blanks (9, 10, 13, 32) between or not .. SIGNS .. all else, is no TOKEN";
        for (int sign = 0; sign < 256; sign++) {
            String text = "cut 5" + (char) sign + ";";
            boolean blank = sign == 9 || sign == 10 || sign == 13 || sign == 32;
            boolean digit = sign >= '0' && sign <= '9';
            if (blank || digit) {
                good(s, text);
            } else {
                fault(s, text, 1, ";+-*/%".indexOf(sign) >= 0 ? 6 : 5);
            }
        }
        good(s, "page6;put(i)j;do2;cut i;end;cut 1;");
        good(s, "\t\n\r page \t6\n;\rput 1\t\t2 ;do\n2;\rend\t; \r\n");
    }

    private static void longestThatCanBe() {
        String s = "TOKENS, the longest that can be";
        good(s, "put pages pages;");
        fault(s, "pages6;", 1, 0);
        fault(s, "put page s;", 1, 4);
        fault(s, "put ij 1;", 1, 4);
        fault(s, "putput 1 1;", 1, 0);
        fault(s, "do 1;endend;", 1, 5);
        TimeIndex x = Check.told("put12 34;put1 234;");
        Check.due(s + " | 12", x.value(12, 2), 34);
        Check.due(s + " | 1", x.value(1, 2), 234);
    }

    private static void wordsInQuotes() {
        String s = "WORDS (those in quotes; letters a .. z, 8 at most)";
        String[] units = {"i", "j", "time", "live", "last", "pages"};
        for (String unit : units) {
            good(s, "cut " + unit + ";");
            fault(s, unit, 1, 0);
            fault(s, "cut " + unit.toUpperCase() + ";", 1, 4);
        }
        String[] others = {"page", "put", "cut", "do", "end"};
        for (String word : others) {
            fault(s, "cut " + word + ";", 1, 4);
            fault(s, word.toUpperCase(), 1, 0);
        }
        fault(s, "cut k;", 1, 4);
        fault(s, "cut a;", 1, 4);
        fault(s, "cut z;", 1, 4);
        fault(s, "cut abcdefgh;", 1, 4);
        fault(s, "cut abcdefghi;", 1, 4);
        fault(s, "cut timetimetimetime;", 1, 4);
    }

    private static void intsOfOneToFourDigits() {
        String s = "INTS (1 to 4 digits) .. A longer one .. is no TOKEN";
        worth(s, "0", 0);
        worth(s, "9", 9);
        worth(s, "10", 10);
        worth(s, "9999", 9999);
        worth(s, "0000", 0);
        worth(s, "0009", 9);
        fault(s, "put 7 10000;", 1, 6);
        fault(s, "put 7 00000;", 1, 6);
        fault(s, "put 12345 7;", 1, 4);
        fault(s, "do 00001;end;", 1, 3);
        fault(s, "page 00008;", 1, 5);
        fault(s, "put 7 " + "1".repeat(40) + ";", 1, 6);
    }

    private static void textMayBeEmpty() {
        String s = "text: ['page' INT ';'] {TELL}";
        good(s, "");
        good(s, "page 8;");
        good(s, "put 1 1;");
        good(s, "do 5;end;");
        fault(s, "page 8;page 8;", 1, 7);
        fault(s, "cut 1;page 8;", 1, 6);
        fault(s, ";", 1, 0);
        fault(s, "page", 1, 4);
        fault(s, "page ;", 1, 5);
        fault(s, "page i;", 1, 5);
        fault(s, "page 8", 1, 6);
        fault(s, "do 5;", 1, 5);
        fault(s, "do 5;end", 1, 8);
        fault(s, "end;", 1, 0);
        fault(s, "do 5;end;end;", 1, 9);
    }

    private static void pageOf6To12() {
        String s = "PAGE: the most ENTRIES of a page, B: 6 .. 12 (8)";
        Check.due(s + " | a new object", new TimeIndex().count(2), 8);
        Check.due(s + " | a text without", Check.told("cut 1;").count(2), 8);
        for (int b = 0; b <= 14; b++) {
            boolean right = b >= 6 && b <= 12;
            fault(s, "page " + b + ";", right ? 0 : 5, right ? -1 : 5);
            if (right) {
                Check.due(s + " | B", Check.told("page " + b + ";").count(2), b);
            }
        }
        fault(s, "page 9999;", 5, 5);
        TimeIndex x = Check.told("page 12;");
        Check.due(s + " | a later text without", Check.read(x, "cut 1;") + x.count(2), 8);
    }

    private static void do0To99() {
        String s = "DO: 0 .. 99 rounds";
        int[] rounds = {0, 1, 2, 98, 99};
        for (int n : rounds) {
            Check.due(s + " | begun in " + n, Check.told("do " + n + ";put i i;end;").count(4), n);
        }
        fault(s, "do 100;end;", 5, 3);
        fault(s, "do 9999;end;", 5, 3);
        fault(s, "do 0-1;end;", 1, 4);
        TimeIndex x = Check.told("do 0;put 1 1;end;do 3;do 0;cut 2;end;end;do 2;do 1;put 3 i;end;end;");
        Check.due(s + " | none in 0 rounds", x.count(4), 2);
    }

    private static void roundsOfNothing() {
        String s = "DO .. {TELL} 'end': rounds of no TELL come to an end";
        String text = "do 99;do 99;" + "do 99;end;".repeat(60) + "end;end;put 1 1;";
        Check.due(s, Check.told(text).value(1, 1), 1);
        TimeIndex x = Check.told("do 99;do 99;do 0;put 1 1;end;end;put i i;end;");
        Check.due(s + " | beside a PUT", x.count(4), 99);
        Check.due(s + " | each in its round", x.count(1), 99);
    }

    private static void doWithinOneAnother() {
        String s = "DO .. within one another 3 at most .. 2 ROOM: a 4th DO within one another (at it)";
        good(s, "do 1;do 1;do 1;end;end;end;");
        good(s, "do 1;do 1;do 1;end;do 1;end;end;do 1;do 1;end;end;end;do 1;end;");
        fault(s, "do 1;do 1;do 1;do 1;end;end;end;end;", 2, 15);
        fault(s, "do 0;do 0;do 0;do 0;end;end;end;end;", 2, 15);
        fault(s, "do 1;do 1;do 1;end;do 1;  do", 2, 26);
        fault(s, "do 1;do 1;do 1;cut 1;do", 2, 21);
        fault(s, "do 1;do 1;do 1;cut do", 1, 19);
    }

    private static void openWithinOneAnother() {
        String s = "2 ROOM: a 7th ( within one another (at it)";
        good(s, "cut ((((((1))))));");
        good(s, "put ((((((1))))))((((((2))))));");
        good(s, "cut ((((((1)))))+(((((2))))));");
        good(s, "cut (1)+(2)+(3)+(4)+(5)+(6)+(7)+(8);");
        TimeIndex x = Check.told("put ((((((12)))))) ((((((34)))))); put 5 5; cut ((((((5))))));");
        Check.due(s + " | six deep: KEY and value", x.value(12, 3), 34);
        Check.due(s + " | six deep: the KEY of a CUT", x.has(5, 3), 0);
        worth(s, "((((((1+2)*2)*2)*2)*2)*2)", 96);
        fault(s, "cut (((((((1)))))));", 2, 10);
        fault(s, "put 1 2*((((((3%(4;", 2, 16);
        fault(s, "cut ((((((1)))))+((((((2)))))));", 2, 22);
        fault(s, "cut (((((((", 2, 10);
        fault(s, "cut ((((((1(", 1, 11);
    }

    private static void wrapOf32Bits() {
        String s = "E: ints of 32 bits that wrap";
        String least = "8192*8192*32";
        worth(s, least, LEAST);
        worth(s, least + "-1", MOST);
        worth(s, "(" + least + "-1)+1", LEAST);
        worth(s, least + "+" + least, 0);
        worth(s, "0-" + least, LEAST);
        worth(s, "0-1-" + least, MOST);
        worth(s, "256*256*256*256", 0);
        worth(s, "9999*9999*9999", 9999 * 9999 * 9999);
        worth(s, least + "*(0-1)", LEAST);
    }

    private static void roundedTowards0() {
        String s = "/ rounded towards 0";
        worth(s, "7/2", 3);
        worth(s, "(0-7)/2", -3);
        worth(s, "7/(0-2)", -3);
        worth(s, "(0-7)/(0-2)", 3);
        worth(s, "1/2", 0);
        worth(s, "(0-1)/2", 0);
        worth(s, "8192*8192*32/(0-1)", LEAST);
    }

    private static void restWithTheSignOfTheFirst() {
        String s = "% the rest with the sign of the first";
        worth(s, "7%3", 1);
        worth(s, "(0-7)%3", -1);
        worth(s, "7%(0-3)", 1);
        worth(s, "(0-7)%(0-3)", -1);
        worth(s, "6%3", 0);
        worth(s, "2%3", 2);
        worth(s, "8192*8192*32%(0-1)", 0);
        worth(s, "8192*8192*32%1000", -648);
    }

    private static void dividedBy0() {
        String s = "what is divided by 0, its rest by 0, is 0";
        worth(s, "5/0", 0);
        worth(s, "5%0", 0);
        worth(s, "0/0", 0);
        worth(s, "0%0", 0);
        worth(s, "(0-5)/0", 0);
        worth(s, "(0-5)%0", 0);
        worth(s, "5/(3-3)", 0);
        worth(s, "5%i", 0);
        worth(s, "5/0+3", 3);
        worth(s, "5%0*9+4", 4);
        worth(s, "8192*8192*32/0", 0);
        worth(s, "8192*8192*32%0", 0);
    }

    private static void roundsFrom0On() {
        String s = "i: the round, from 0 on, of the innermost DO about it, j: of the next one about that (0 without)";
        TimeIndex x = Check.told("put 100 i*10+j+1; do 2; put 200+i i*10+j; do 2; put 300+i+j*2 i*10+j; "
                + "do 2; put 400+time i*10+j; end; put 500+i+j*2 i*10+j; end; put 600+i i*10+j; end; put 700 i+j+1;");
        int now = x.count(0);
        Check.due(s + " | about none", x.value(100, now), 1);
        Check.due(s + " | about one", x.value(201, now), 10);
        Check.due(s + " | about two", x.value(301, now), 10);
        Check.due(s + " | about two, the outer one's next", x.value(302, now), 1);
        Check.due(s + " | about two, both", x.value(303, now), 11);
        Check.due(s + " | about three", x.value(403, now), 0);
        Check.due(s + " | about three, next", x.value(404, now), 10);
        Check.due(s + " | about three, the middle one's", x.value(407, now), 1);
        Check.due(s + " | about three, both", x.value(408, now), 11);
        Check.due(s + " | behind the third", x.value(501, now), 10);
        Check.due(s + " | behind the second", x.value(601, now), 10);
        Check.due(s + " | behind all", x.value(700, now), 1);
    }

    /** The text ahead is left at its 400th PUT, in the fifth round of one DO and the fourth of the one in it. */
    private static void roundsOfTheTextAhead() {
        String s = "i .. j .. (0 without): none are left of the text ahead";
        TimeIndex x = Check.told("do 99;do 99;put 5 i*10+j;end;end;");
        Check.due(s + " | the text ahead", x.value(5, 400), 34);
        Check.due(s + " | a text without rounds", Check.read(x, "put 6 i*10+j+1;do 1;put 7 i*10+j+1;end;"), 0);
        Check.due(s + " | about none", x.value(6, 1), 1);
        Check.due(s + " | about one", x.value(7, 2), 1);
        Check.due(s + " | last", Check.read(x, "put last+8 1;") == 0 ? x.has(8, 1) : -1, 1);
    }

    private static void readsAfreshBehindAFault() {
        String s = "text: .. behind a FAULT in the midst of DO's and ('s";
        TimeIndex x = new TimeIndex();
        Check.due(s + " | three DO's", Check.read(x, "do 1;do 1;do 1;"), 1);
        Check.due(s + " | no END is due", Check.read(x, "put 1 1;"), 0);
        Check.due(s + " | three DO's", Check.read(x, "do 1;do 1;do 1;put (((((("), 1);
        Check.due(s + " | no END goes on", Check.read(x, "end;"), 1);
        Check.due(s + " | at its place", x.place(), 0);
        Check.due(s + " | three again", Check.read(x, "do 1;do 1;do 1;cut ((((((1))))));end;end;end;"), 0);
        Check.due(s + " | a wrong number", Check.read(x, "do 100;end;"), 5);
        Check.due(s + " | a right one", Check.read(x, "do 9;end;"), 0);
        Check.due(s + " | another PAGE", Check.read(x, "page 13;"), 5);
        Check.due(s + " | none", Check.read(x, "put 1 1;"), 0);
        Check.due(s + " | B", x.count(2), 8);
        Check.due(s + " | a 401st TOKEN", Check.read(x, "put 1 1;".repeat(101)), 2);
        Check.due(s + " | 400", Check.read(x, "put 1 1;".repeat(100)), 0);
    }

    private static void variablesAsTheyAre() {
        String s = "time .. live .. last .. pages";
        TimeIndex x = Check.told("put 1 time+live*10+last*100+pages*1000;"
                + "put 2 time+live*10+last*100+pages*1000; cut 1; cut 1; put 3 time+live*10+last*100+pages*1000;");
        Check.due(s + " | at first (last: 0 without)", x.value(1, 1), 1000);
        Check.due(s + " | behind one PUT", x.value(2, 2), 1111);
        Check.due(s + " | behind a CUT, and one of nothing", x.value(3, 4), 1213);
        x = Check.told("put 0-1 last; put 5 last; put last+last last; put last 1;");
        Check.due(s + " | last is a KEY", x.value(5, 2), 999);
        Check.due(s + " | both E's ahead of the PUT", x.value(10, 3), 5);
        Check.due(s + " | last as a KEY", x.value(10, 4), 1);
        Check.read(x, "put 3 last;");
        Check.due(s + " | of this text", x.value(3, 1), 0);
        x = Check.told("do 8;put i pages;end;put 8 pages;put 9 pages;");
        Check.due(s + " | pages ahead of the PUT that makes some", x.value(8, 9), 1);
        Check.due(s + " | pages behind it", x.value(9, 10), 4);
    }

    private static void keyBy1000() {
        String s = "A KEY is what E tells, by 1,000, the rest from 0 on";
        String[] texts = {"0", "999", "1000", "1999", "0-1", "0-999", "0-1000", "0-1001", "9999",
            "8192*8192*32", "8192*8192*32-1"};
        int[] keys = {0, 999, 0, 999, 999, 1, 0, 999, 999, 352, 647};
        for (int n = 0; n < keys.length; n++) {
            TimeIndex x = Check.told("put " + texts[n] + " 5; put 500 1;");
            Check.due(s + " | PUT of " + texts[n], x.value(keys[n], 2), 5);
            Check.read(x, "put " + keys[n] + " 5; cut " + texts[n] + ";");
            Check.due(s + " | CUT of " + texts[n], x.has(keys[n], 2), 0);
        }
    }

    private static void firstFaultByPlace() {
        String s = "FAULTS of a text, the first by its place (a byte; the text's end: its length)";
        fault(s, "cut ; cut ;", 1, 4);
        fault(s, "cut @ cut (((((((1", 1, 4);
        fault(s, "cut (((((((1 @", 2, 10);
        fault(s, "do 1;do 1;do 1;do 1;@", 2, 15);
        fault(s, "@do 1;do 1;do 1;do 1;", 1, 0);
        fault(s, "cut", 1, 3);
        fault(s, "cut \n\n", 1, 6);
        fault(s, "cut 1", 1, 5);
    }

    private static void leastOfOnePlace() {
        String s = "of one place the least";
        String full = "cut 1;".repeat(133) + "cut";
        good("400 TOKENS", "cut 1;".repeat(133));
        fault(s, full + " 1", 2, 802);
        fault(s, full + ";", 1, 801);
        fault(s, full + ")", 1, 801);
        fault(s, full + "@", 1, 801);
        fault(s, full + "(", 2, 801);
        fault(s, full, 1, 801);
    }

    private static void token401() {
        String s = "2 ROOM: a 401st TOKEN";
        String all = "put 1 1;".repeat(100);
        good(s, all);
        good(s, all + "\n \t\r");
        fault(s, all + "put 1 1;", 2, 800);
        fault(s, all + "  do 1;end;", 2, 802);
        fault(s, "page 8;" + "put 1 1;".repeat(99) + "cut", 1, 802);
        fault(s, "page 8;" + "put 1 1;".repeat(99) + "cut 1", 2, 803);
        fault(s, "do 1;" + "put 1 1;".repeat(99) + "end;", 2, 800);
        good(s, "do 1;put 1 1+2;" + "cut 1;".repeat(129) + "end;");
        fault(s, all + "end", 1, 800);
        fault(s, all + "page", 1, 800);
    }

    private static void wrongIfThereIsNoOther() {
        String s = "If there is none, likewise: 5 WRONG (at the INT)";
        fault(s, "page 5;do 100;end;", 5, 5);
        fault(s, "page 6;do 100;end;", 5, 10);
        fault(s, "do 99;do 100;end;end;do 101;end;", 5, 9);
        fault(s, "page 5;cut", 1, 10);
        fault(s, "page 5;do 1;do 1;do 1;do 1;", 2, 22);
        fault(s, "do 100;end", 1, 10);
        fault(s, "page  13 ;", 5, 6);
        fault(s, "page 13;" + "put 1 1;".repeat(100), 2, 804);
        good(s, "put 9999 9999;");
    }

    /** What was told, and what is asked of it behind three texts with a FAULT, one of each kind. */
    private static void faultChangesNothing() {
        String s = "A text with a FAULT changes nothing but the tape";
        String[] texts = {"page 7;put 1 2", "page 7;put 1 2;cut (((((((1", "page 7;put 1 2;do 100;end;"};
        for (String text : texts) {
            TimeIndex x = Check.told("page 6;do 9;put i i*i;end;cut 100;cut 3;");
            x.hold(2);
            x.put(77, 8);
            int[] before = look(x);
            Check.due(s + " | a FAULT", Check.read(x, text) > 0, true);
            Check.due(s, look(x), before);
            Check.due(s + " | the tape", x.count(6), 0);
            Check.due(s + " | a SLOT", x.restore(2), true);
            Check.due(s + " | what it holds", x.count(0), 10);
        }
    }

    private static int[] look(TimeIndex x) {
        int[] all = new int[16 + 8 * 10];
        for (int what = 0; what <= 10; what++) {
            all[what] = x.count(what);
        }
        for (int what = 0; what <= 4; what++) {
            all[11 + what] = x.room(what);
        }
        for (int n = 0; n < 80; n++) {
            int t = n % 12;
            all[16 + n] = n < 12 ? x.root(t) : n < 24 ? x.sum(0, 999, t) : n < 36 ? x.since(8, t)
                    : x.entry(n % 6, n / 6 % 6, n % 4);
        }
        return all;
    }

    private static void emptyIndexInPlace() {
        String s = "else an empty index is in place of the one ahead .. SLOTS hold nothing";
        TimeIndex x = Check.told("page 6;do 30;put i 1;end;cut 99;");
        x.hold(0);
        x.hold(1);
        x.hold(2);
        Check.due(s + " | an empty text", x.read(), 0);
        int[] counts = new int[11];
        for (int what = 0; what <= 10; what++) {
            counts[what] = x.count(what);
        }
        Check.due(s, counts, 0, 0, 8, 2, 0, 0, 0, 0, -2, -2, 1);
        Check.due(s + " | pages", x.room(0), 1);
        Check.due(s + " | ENTRIES", x.room(1), 0);
        Check.due(s + " | ended", x.room(2), 0);
        Check.due(s + " | ROOTS", x.room(3), 1);
        Check.due(s + " | the ROOT", x.root(0), 0);
        Check.due(s + " | VERSIONS", x.versions(5), 0);
        for (int slot = 0; slot < 3; slot++) {
            Check.due(s + " | restore", x.restore(slot), false);
        }
    }

    private static void begun400() {
        String s = "the TELLS are done .. till they end or 400 PUTS and CUTS were begun";
        TimeIndex x = Check.told("do 99;do 4;put i i;end;end;put 5 5;put 6 6;put 7 7;");
        Check.due(s + " | 399", x.count(4), 399);
        Check.due(s + " | the last of 399", x.has(7, 399), 1);
        x = Check.told("do 99;do 4;put i i;end;end;put 5 5;put 6 6;put 7 7;put 8 8;");
        Check.due(s + " | 400", x.count(4), 400);
        Check.due(s + " | the last of 400", x.has(8, 400), 1);
        x = Check.told("do 99;do 4;put i i;end;end;put 5 5;put 6 6;put 7 7;put 8 8;put 9 9;cut 8;");
        Check.due(s + " | 402", x.count(4), 400);
        Check.due(s + " | the 401st", x.has(9, x.count(0)), 0);
        Check.due(s + " | the 402nd", x.has(8, x.count(0)), 1);
        x = Check.told("do 99;do 5;cut 1;end;end;put 1 1;");
        Check.due(s + " | CUTS of nothing", x.count(4), 400);
        Check.due(s + " | they did nothing", x.count(5), 400);
        Check.due(s + " | no time", x.count(0), 0);
        Check.due(s + " | calls go on", x.put(1, 1), 1);
        x = Check.told("do 99;do 99;do 99;put i i;cut i;end;end;end;");
        Check.due(s + " | far more", x.count(4), 400);
        Check.due(s + " | the last one was a CUT", x.count(1), 0);
    }

    /** A byte that is no TOKEN, at every place of the twenty. */
    private static void feedInOrder() {
        String s = "Twenty bytes, the highest of a first, come behind the tape";
        int[] odd = {0x40, 0xff, 0x80};
        for (int byteOf : odd) {
            for (int at = 0; at < 20; at++) {
                int[] words = {0x20202020, 0x20202020, 0x20202020, 0x20202020, 0x20202020};
                int shift = 24 - at % 4 * 8;
                words[at / 4] = words[at / 4] & ~(255 << shift) | byteOf << shift;
                TimeIndex x = new TimeIndex();
                Check.due(s, x.feed(words[0], words[1], words[2], words[3], words[4]), 20);
                Check.due(s, x.read(), 1);
                Check.due(s, x.place(), at);
            }
        }
    }

    private static void feedTo2000() {
        String s = "NONE, and nothing comes, if it would have more than 2,000";
        TimeIndex x = new TimeIndex();
        for (int n = 1; n <= 99; n++) {
            Check.due("how many it has", x.feed(0x20202020, 0x20202020, 0x20202020, 0x20202020, 0x20202020), 20 * n);
        }
        Check.due(s + " | back", x.back(0), 1980);
        Check.due(s + " | to 2,000", x.feed(0x20202020, 0x20202020, 0x20202020, 0x20202020, 0x20202020), 2000);
        Check.due(s + " | to 2,020", x.feed(0x40404040, 0, 0, 0, 0), -1);
        Check.due(s + " | as it was", x.count(6), 2000);
        Check.due(s + " | back", x.back(1), 1999);
        Check.due(s + " | to 2,019", x.feed(0x40404040, 0, 0, 0, 0), -1);
        Check.due(s + " | back", x.back(18), 1981);
        Check.due(s + " | to 2,001", x.feed(0x40404040, 0, 0, 0, 0), -1);
        Check.due(s + " | as it was", x.count(6), 1981);
        Check.due(s + " | no byte came", x.read(), 0);
    }

    private static void backOfTheTape() {
        String s = "The last n bytes of the tape go";
        TimeIndex x = new TimeIndex();
        String none = "NONE, and nothing goes, if it has not so many, or n is below 0";
        Check.due(none + " | 1 of 0", x.back(1), -1);
        Check.due(s + " | 0 of 0", x.back(0), 0);
        Check.feed(x, "put 1 2;put 3 4;@@@@");
        Check.due(none + " | 21 of 20", x.back(21), -1);
        Check.due(none + " | -1", x.back(-1), -1);
        Check.due(none + " | least", x.back(LEAST), -1);
        Check.due(none + " | most", x.back(MOST), -1);
        Check.due(none + " | nothing went", x.count(6), 20);
        Check.due(s + " | 0", x.back(0), 20);
        Check.due(s + " | 12", x.back(12), 8);
        Check.feed(x, "put 5 6;");
        Check.due(s + " | read", x.read(), 0);
        Check.due(s + " | the first ones stay", x.value(1, 2), 2);
        Check.due(s + " | those went", x.versions(3), 0);
        Check.due(s + " | others come behind", x.value(5, 2), 6);
        Check.feed(x, "cut");
        Check.due(s + " | all", x.back(3), 0);
        Check.due(s + " | nothing is left", x.read(), 0);
    }

    private static void readEmptiesTheTape() {
        String s = "The tape, which is empty then, is read: 0, or the number of its FAULT";
        String[] texts = {"", "put 1 1;", "put", "cut (((((((", "do 100;end;"};
        int[] answers = {0, 0, 1, 2, 5};
        for (int n = 0; n < texts.length; n++) {
            TimeIndex x = new TimeIndex();
            Check.due(s + " | " + texts[n], Check.read(x, texts[n]), answers[n]);
            Check.due(s + " | empty", x.count(6), 0);
            Check.due(s + " | nothing to go", x.back(1), -1);
            Check.due(s + " | read again", x.read(), 0);
        }
    }

    private static void placeOfTheLatestRead() {
        String s = "The byte of the latest read()'s FAULT; NONE without";
        TimeIndex x = new TimeIndex();
        Check.due(s + " | no read() yet", x.place(), -1);
        Check.read(x, "@");
        Check.due(s + " | the first byte", x.place(), 0);
        Check.read(x, "  @");
        Check.due(s + " | a later read()", x.place(), 2);
        x.put(1, 1);
        x.feed(0x40404040, 0, 0, 0, 0);
        Check.due(s + " | other calls", x.place(), 2);
        x.back(20);
        x.read();
        Check.due(s + " | a read() without", x.place(), -1);
    }
}
