import java.util.Random;

/** Random texts: most of them without a FAULT, the others spoilt somewhere. */
final class TextMaker {
    private static final String[] VARS = {"i", "j", "time", "live", "last", "pages"};
    private static final String[] PIECES = {"page", "put", "cut", "do", "end", "i", "j", "time", "live", "last",
        "pages", ";", "+", "-", "*", "/", "%", "(", ")", "0", "7", "99", "100", "9999", "00012", "12345",
        "put put", "foo", "pagesput", "abcdefgh", "abcdefghi", "A", "\u00e9", "\u0000", "_", ".", ""};
    private static final String[] BLANKS = {" ", " ", " ", "\n", "\t", "\r", "  "};

    private final Random random;
    private final int keys;
    private final StringBuilder text = new StringBuilder();

    TextMaker(Random random, int keys) {
        this.random = random;
        this.keys = keys;
    }

    String make() {
        if (random.nextInt(10) > 0) {
            add("page");
            add("" + (random.nextInt(25) == 0 ? random.nextInt(15) : 6 + random.nextInt(7)));
            add(";");
        }
        int shape = random.nextInt(10);
        if (shape < 3) {
            grower();
        } else if (shape < 7) {
            shrinker();
        } else {
            tells(1 + random.nextInt(shape == 9 ? 40 : 6), 0);
        }
        if (random.nextInt(4) == 0) {
            spoil();
        }
        return text.length() > 2000 ? text.substring(0, 2000) : text.toString();
    }

    /** Puts and cuts by the hundred, so that pages come and go. */
    private void grower() {
        int step = 1 + random.nextInt(500);
        int off = random.nextInt(1000);
        int puts = 1 + random.nextInt(4);
        add("do"); add("99"); add(";");
        for (int n = 0; n < puts; n++) {
            add("put"); add("(time*" + step + "+" + off + ")%" + keys + "*" + (999 / keys)); add("i%3"); add(";");
        }
        if (random.nextBoolean()) {
            add("cut"); add("(i*" + (1 + random.nextInt(50)) + ")%" + keys + "*" + (999 / keys)); add(";");
        }
        add("end"); add(";");
        if (random.nextBoolean()) {
            add("do"); add("99"); add(";");
            add("cut"); add("i*" + (1 + random.nextInt(3)) + "%" + keys + "*" + (999 / keys)); add(";");
            add("end"); add(";");
        }
    }

    /** KEYS that come in one order and go in another, so that pages get thin on all levels. */
    private void shrinker() {
        int many = 20 + random.nextInt(120);
        int step = 1 + random.nextInt(999 / many);
        add("do"); add("99"); add(";");
        add("do"); add("2"); add(";");
        add("put"); add("(" + order(many) + ")%" + many + "*" + step); add("i"); add(";");
        add("end"); add(";"); add("end"); add(";");
        add("do"); add("" + random.nextInt(100)); add(";");
        add("do"); add("2"); add(";");
        add("cut"); add("(" + order(many) + ")%" + many + "*" + step); add(";");
        if (random.nextInt(4) == 0) {
            add("put"); add("(" + order(many) + ")%" + many + "*" + step); add("7"); add(";");
        }
        add("end"); add(";"); add("end"); add(";");
    }

    /** Upwards, downwards, or by leaps from anywhere on, of the two rounds of a shrinker. */
    private String order(int many) {
        switch (random.nextInt(3)) {
            case 0: return "j*2+i+" + random.nextInt(many);
            case 1: return (random.nextInt(many) + 200) + "-j*2-i";
            default: return "(j*2+i)*" + (1 + random.nextInt(many)) + "+" + random.nextInt(many);
        }
    }

    private void add(String token) {
        text.append(token);
        boolean needsBlank = !token.isEmpty() && Character.isLetterOrDigit(token.charAt(token.length() - 1));
        if (needsBlank || random.nextInt(3) == 0) {
            text.append(BLANKS[random.nextInt(BLANKS.length)]);
        }
    }

    private void tells(int many, int depth) {
        for (int n = 0; n < many; n++) {
            int kind = random.nextInt(10);
            if (kind < 5) {
                add("put"); worth(0); worth(0); add(";");
            } else if (kind < 7) {
                add("cut"); worth(0); add(";");
            } else if (depth < (random.nextInt(30) == 0 ? 5 : 3)) {
                add("do"); add("" + random.nextInt(random.nextInt(20) == 0 ? 110 : 12)); add(";");
                tells(random.nextInt(4), depth + 1);
                add("end"); add(";");
            }
        }
    }

    private void worth(int depth) {
        int parts = 1 + random.nextInt(3);
        for (int n = 0; n < parts; n++) {
            if (n > 0) {
                add("" + "+-*/%".charAt(random.nextInt(5)));
            }
            int kind = random.nextInt(10);
            if (kind < 4) {
                add("" + random.nextInt(random.nextBoolean() ? 10 : 10000));
            } else if (kind < 8) {
                add(VARS[random.nextInt(VARS.length)]);
            } else if (depth < 8) {
                add("("); worth(depth + 1); add(")");
            } else {
                add("0");
            }
        }
    }

    private void spoil() {
        int times = 1 + random.nextInt(2);
        for (int n = 0; n < times; n++) {
            int at = random.nextInt(text.length() + 1);
            int kind = random.nextInt(4);
            if (kind == 0) {
                text.setLength(at);
            } else if (kind == 1 && at < text.length()) {
                text.deleteCharAt(at);
            } else {
                text.insert(at, PIECES[random.nextInt(PIECES.length)]);
            }
        }
    }
}
