import java.util.ArrayList;
import java.util.List;
import java.util.regex.Matcher;
import java.util.regex.Pattern;

/** A text of the document: TOKENS by a pattern, a tree of what it tells, which is then done as it stands. */
final class ModelText {
    private static final Pattern TOKEN = Pattern.compile("[a-z]+|[0-9]+|[^\\t\\n\\r ]", Pattern.DOTALL);
    private static final List<String> WORDS =
            List.of("page", "put", "cut", "do", "end", "i", "j", "time", "live", "last", "pages");
    private static final List<String> VARS = List.of("i", "j", "time", "live", "last", "pages");

    private static final class Fault extends RuntimeException {
        private static final long serialVersionUID = 1L;
        final int number;

        Fault(int number) {
            this.number = number;
        }
    }

    private interface Worth {
        int of(Model.World w, int[] rounds);
    }

    private interface Tell {
        void run(Model.World w, int[] rounds);
    }

    private static final class Enough extends RuntimeException {
        private static final long serialVersionUID = 1L;
    }

    int fault = 0;
    int place = -1;
    int b = 8;
    int begun = 0;
    int idle = 0;
    private int last = 0;
    private int wrong = -1;
    private final List<String> tokens = new ArrayList<>();
    private final List<Integer> places = new ArrayList<>();
    private int at = 0;
    private int dos = 0;
    private int open = 0;
    private List<Tell> tells = List.of();

    ModelText(String text) {
        Matcher m = TOKEN.matcher(text);
        while (m.find()) {
            tokens.add(m.group());
            places.add(m.start());
        }
        tokens.add("");
        places.add(text.length());
        try {
            if (see("page")) {
                b = number(6, 12);
                need(";");
            }
            tells = tells();
            if (!tokens.get(at).isEmpty()) {
                throw new Fault(1);
            }
        } catch (Fault f) {
            fault = f.number;
            place = places.get(at);
        }
        if (fault == 0 && wrong >= 0) {
            fault = 5;
            place = wrong;
        }
    }

    private String ahead() {
        return tokens.get(at);
    }

    private boolean see(String token) {
        if (!ahead().equals(token)) {
            return false;
        }
        go();
        return true;
    }

    private void need(String token) {
        if (!see(token)) {
            throw new Fault(1);
        }
    }

    private void go() {
        if (at == 400) {
            throw new Fault(2);
        }
        at++;
    }

    private boolean isInt() {
        return ahead().matches("[0-9]{1,4}");
    }

    private int number(int least, int most) {
        if (!isInt()) {
            throw new Fault(1);
        }
        int n = Integer.parseInt(ahead());
        if ((n < least || n > most) && wrong < 0) {
            wrong = places.get(at);
        }
        go();
        return n;
    }

    private List<Tell> tells() {
        List<Tell> all = new ArrayList<>();
        while (true) {
            if (see("put")) {
                Worth key = sum();
                Worth value = sum();
                need(";");
                all.add((w, rounds) -> doPut(w, key.of(w, rounds), value.of(w, rounds)));
            } else if (see("cut")) {
                Worth key = sum();
                need(";");
                all.add((w, rounds) -> doCut(w, key.of(w, rounds)));
            } else if (ahead().equals("do")) {
                all.add(round());
            } else {
                return all;
            }
        }
    }

    private Tell round() {
        if (dos == 3) {
            throw new Fault(2);
        }
        go();
        dos++;
        int times = number(0, 99);
        need(";");
        List<Tell> body = tells();
        need("end");
        need(";");
        dos--;
        return (w, rounds) -> {
            for (int n = 0; n < times; n++) {
                for (Tell t : body) {
                    t.run(w, new int[] {n, rounds[0]});
                }
            }
        };
    }

    private void doPut(Model.World w, int key, int value) {
        if (begun == 400) {
            throw new Enough();
        }
        begun++;
        last = Math.floorMod(key, 1000);
        idle += w.put(last, value) ? 0 : 1;
    }

    private void doCut(Model.World w, int key) {
        if (begun == 400) {
            throw new Enough();
        }
        begun++;
        idle += w.cut(Math.floorMod(key, 1000)) ? 0 : 1;
    }

    private Worth sum() {
        Worth all = product();
        while (ahead().equals("+") || ahead().equals("-")) {
            int sign = ahead().equals("+") ? 1 : -1;
            go();
            Worth left = all;
            Worth right = product();
            all = (w, r) -> left.of(w, r) + sign * right.of(w, r);
        }
        return all;
    }

    private Worth product() {
        Worth all = unit();
        while (ahead().equals("*") || ahead().equals("/") || ahead().equals("%")) {
            String sign = ahead();
            go();
            Worth left = all;
            Worth right = unit();
            all = (w, r) -> work(sign, left.of(w, r), right.of(w, r));
        }
        return all;
    }

    private static int work(String sign, long x, long y) {
        if (sign.equals("*")) {
            return (int) (x * y);
        }
        if (y == 0) {
            return 0;
        }
        return (int) (sign.equals("/") ? x / y : x % y);
    }

    private Worth unit() {
        if (isInt()) {
            int n = number(0, 9999);
            return (w, r) -> n;
        }
        if (ahead().equals("(")) {
            if (open == 6) {
                throw new Fault(2);
            }
            go();
            open++;
            Worth inside = sum();
            need(")");
            open--;
            return inside;
        }
        String word = ahead();
        if (!WORDS.contains(word) || !VARS.contains(word)) {
            throw new Fault(1);
        }
        go();
        return (w, r) -> variable(word, w, r);
    }

    private int variable(String word, Model.World w, int[] rounds) {
        switch (word) {
            case "i": return rounds[0];
            case "j": return rounds[1];
            case "time": return w.time;
            case "live": return w.alive(w.time).size();
            case "last": return last;
            default: return w.pages.size();
        }
    }

    void tell(Model.World w) {
        try {
            for (Tell t : tells) {
                t.run(w, new int[] {0, 0});
            }
        } catch (Enough e) {
            // 400 were begun: the rest of the text is not told
        }
    }
}
