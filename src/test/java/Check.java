/** What the tests share: counting wrong answers, and bringing a text to an object. */
final class Check {
    private static int wrong = 0;
    private static int asked = 0;

    private Check() {
    }

    static void due(String what, long got, long want) {
        asked++;
        if (got != want) {
            wrong++;
            if (wrong <= 40) {
                System.out.println(what + " answered " + got + ", due is " + want);
            }
        }
    }

    static void due(String what, boolean got, boolean want) {
        due(what, got ? 1 : 0, want ? 1 : 0);
    }

    /** Each answer of a row of calls of one kind, in their order. */
    static void due(String what, int[] got, int... want) {
        due(what + ": how many", got.length, want.length);
        for (int n = 0; n < got.length && n < want.length; n++) {
            due(what + " at " + n, got[n], want[n]);
        }
    }

    static int wrong() {
        return wrong;
    }

    /** Feeds whole blocks of twenty bytes and takes back what is too much: how many bytes the tape has. */
    static int feed(TimeIndex x, String text) {
        int size = x.count(6);
        for (int from = 0; from < text.length(); from += 20) {
            int[] words = new int[5];
            for (int n = 0; n < 20; n++) {
                int sign = from + n < text.length() ? text.charAt(from + n) : ' ';
                words[n / 4] = words[n / 4] << 8 | sign;
            }
            x.feed(words[0], words[1], words[2], words[3], words[4]);
        }
        int spare = (20 - text.length() % 20) % 20;
        x.back(spare);
        due("bytes fed", x.count(6), size + text.length());
        return x.count(6);
    }

    static int read(TimeIndex x, String text) {
        feed(x, text);
        return x.read();
    }

    /** A new object to which a text without a FAULT was told. */
    static TimeIndex told(String text) {
        TimeIndex x = new TimeIndex();
        due("read of " + text, read(x, text), 0);
        return x;
    }

    static void finish() {
        System.out.println(asked + " answers looked at, " + wrong + " wrong");
        if (wrong != 0 || asked == 0) {
            System.exit(1);
        }
    }
}
