import java.util.Arrays;

/**
 * An index of keys that can be asked as of any past moment. The document ../shared/DOC.md tells what
 * every call promises; words in capitals here (KEY, PAGE, REPLACED ..) are that document's terms.
 */
public final class TimeIndex {
    public static final int NONE = -1;

    /** The answer where a KEY, a TO or an end is asked for that is not there. */
    private static final int LACKS = -2;
    private static final int NO_SUCH = -1000;

    private static final int KEYS = 1000;
    private static final int TEXT_MOST = 2000;
    private static final int FEED_BYTES = 20;
    private static final int SLOTS = 3;
    private static final int PAGES_MOST = 280;
    private static final int BEGUN_MOST = 400;
    private static final int USUAL_MOST = 8;
    /** Far more levels than 280 pages can have: ends every way down, whatever the state. */
    private static final int LEVELS_MOST = 40;
    /** More pages than the last PUT or CUT can leave: ends every walk over pages. */
    private static final int WALK_MOST = 1000;

    private static final int TOKENS_MOST = 400;
    private static final int LETTERS_MOST = 8;
    private static final int DIGITS_MOST = 4;
    private static final int DO_MOST = 3;
    private static final int OPEN_MOST = 6;
    private static final int LEAST_PAGE = 6;
    private static final int GREATEST_PAGE = 12;
    private static final int ROUNDS_MOST = 99;

    private static final int SYNTAX = 1;
    private static final int ROOM = 2;
    private static final int WRONG = 5;

    /** Kinds of TOKENS; a SIGN's kind is its own character, and all of those are above these. */
    private static final int STOP = 0;
    private static final int NO_TOKEN = 1;
    private static final int INT = 2;
    private static final int PAGE = 3;
    private static final int PUT = 4;
    private static final int CUT = 5;
    private static final int DO = 6;
    private static final int END = 7;
    private static final int VAR_I = 8;
    private static final int VAR_J = 9;
    private static final int VAR_TIME = 10;
    private static final int VAR_LIVE = 11;
    private static final int VAR_LAST = 12;
    private static final int VAR_PAGES = 13;
    private static final String SIGNS = ";+-*/%()";

    private static final int LEAF = 1;
    private static final int INNER = 0;

    private final Row tape;
    private final Lexer lexer;
    private final Parser parser;
    private final Teller teller;
    private final State state;
    private final Grower grower;
    private final KeyAsker keyAsker;
    private final PageAsker pageAsker;
    private final State[] slots;
    private int faultPlace;
    private int begun;
    private int idle;

    public TimeIndex() {
        tape = new Row(128);
        lexer = new Lexer(tape);
        parser = new Parser(lexer);
        state = new State();
        teller = new Teller(lexer, parser, state);
        grower = new Grower(state);
        keyAsker = new KeyAsker(state.history);
        pageAsker = new PageAsker(state);
        slots = new State[SLOTS];
        for (int slot = 0; slot < SLOTS; slot++) {
            slots[slot] = new State();
        }
        faultPlace = NONE;
        begun = 0;
        idle = 0;
        state.reset(USUAL_MOST);
    }

    public int feed(int a, int b, int c, int d, int e) {
        if (tape.size + FEED_BYTES > TEXT_MOST) {
            return NONE;
        }
        feedFour(a);
        feedFour(b);
        feedFour(c);
        feedFour(d);
        feedFour(e);
        return tape.size;
    }

    public int back(int n) {
        if (n < 0 || n > tape.size) {
            return NONE;
        }
        tape.shorten(tape.size - n);
        return tape.size;
    }

    public int read() {
        lexer.lexAll();
        parser.parseAll();
        tape.shorten(0);
        faultPlace = parser.faultPlace;
        if (parser.fault != 0) {
            return parser.fault;
        }
        state.reset(parser.most);
        emptySlots();
        tellAll();
        return 0;
    }

    public int place() {
        return faultPlace;
    }

    public int put(int key, int value) {
        return isKey(key) && grower.bring(key, value) ? state.history.now() : NONE;
    }

    public int cut(int key) {
        return isKey(key) && grower.drop(key) ? state.history.now() : NONE;
    }

    public int has(int key, int t) {
        if (!isKey(key) || !isTime(t)) {
            return NONE;
        }
        return state.history.livingFrom(key, t) == NONE ? 0 : 1;
    }

    public int value(int key, int t) {
        if (!isKey(key) || !isTime(t)) {
            return 0;
        }
        int from = state.history.livingFrom(key, t);
        return from == NONE ? 0 : state.history.values.at(from);
    }

    public int since(int key, int t) {
        if (!isKey(key) || !isTime(t)) {
            return NONE;
        }
        int from = state.history.livingFrom(key, t);
        return from == NONE ? LACKS : from;
    }

    public int many(int lo, int hi, int t) {
        return isRange(lo, hi) && isTime(t) ? keyAsker.livingIn(lo, hi, t) : NONE;
    }

    public int sum(int lo, int hi, int t) {
        return isRange(lo, hi) && isTime(t) ? keyAsker.totalIn(lo, hi, t) : 0;
    }

    public int nth(int i, int t) {
        return i >= 0 && isTime(t) ? keyAsker.keyByRank(i, t) : NONE;
    }

    public int next(int key, int t) {
        return isKey(key) && isTime(t) ? keyAsker.fromKeyUp(key, t) : NONE;
    }

    public int prior(int key, int t) {
        return isKey(key) && isTime(t) ? keyAsker.fromKeyDown(key, t) : NONE;
    }

    public int differ(int lo, int hi, int t, int u) {
        return isRange(lo, hi) && isTime(t) && isTime(u) ? keyAsker.differences(lo, hi, t, u) : NONE;
    }

    public int ever(int lo, int hi, int t, int u) {
        return isRange(lo, hi) && isSpan(t, u) ? keyAsker.livingWithin(lo, hi, t, u) : NONE;
    }

    public int stay(int key, int t, int u) {
        return isKey(key) && isSpan(t, u) ? keyAsker.timesOf(key, t, u) : NONE;
    }

    public int versions(int key) {
        return isKey(key) ? state.history.versionsOf(key) : NONE;
    }

    public int version(int key, int i, int what) {
        if (!isKey(key)) {
            return NO_SUCH;
        }
        int from = state.history.versionFrom(key, i);
        if (from == NONE) {
            return NO_SUCH;
        }
        switch (what) {
            case 0:
                return from;
            case 1:
                return state.history.tos.at(from);
            case 2:
                return state.history.values.at(from);
            default:
                return NO_SUCH;
        }
    }

    public int peak(int lo, int hi, int what) {
        return isRange(lo, hi) && isEither(what) ? keyAsker.mostLiving(lo, hi, what) : NONE;
    }

    public int root(int t) {
        return isTime(t) ? state.rootAt(t) : NONE;
    }

    public int deep(int t) {
        return isTime(t) ? pageAsker.levels(t) : NONE;
    }

    public int leaf(int key, int t) {
        return isKey(key) && isTime(t) ? pageAsker.leafOf(key, t) : NONE;
    }

    public int reads(int lo, int hi, int t) {
        return isRange(lo, hi) && isTime(t) ? pageAsker.pagesFor(lo, hi, t) : NONE;
    }

    public int thin(int t) {
        return isTime(t) ? pageAsker.weakPages(t) : NONE;
    }

    public int way(int key, int t, int i) {
        return isKey(key) && isTime(t) ? pageAsker.pageOnWay(key, t, i) : NONE;
    }

    public int longest(int key, int what) {
        return isKey(key) && isEither(what) ? keyAsker.longestVersion(key, what) : NONE;
    }

    public int busiest(int lo, int hi, int what) {
        return isRange(lo, hi) && isEither(what) ? keyAsker.mostVersions(lo, hi, what) : NONE;
    }

    public int gap(int t, int what) {
        return isTime(t) && isEither(what) ? keyAsker.widestGap(t, what) : NONE;
    }

    public int held(int t, int what) {
        return isTime(t) ? pageAsker.heldAt(t, what) : NONE;
    }

    public int page(int page, int what) {
        Pages pages = state.pages;
        if (!pages.isPage(page)) {
            return NONE;
        }
        switch (what) {
            case 0:
                return pages.kinds.at(page);
            case 1:
                return pages.sizes.at(page);
            case 2:
                return pages.openIn(page);
            case 3:
                return pages.mades.at(page);
            case 4:
                return pages.ends.at(page);
            default:
                return NONE;
        }
    }

    public int entry(int page, int i, int what) {
        Pages pages = state.pages;
        if (!pages.isPage(page) || i < 0 || i >= pages.sizes.at(page)) {
            return NO_SUCH;
        }
        int slot = pages.firstSlot(page) + i;
        switch (what) {
            case 0:
                return pages.keys.at(slot);
            case 1:
                return pages.froms.at(slot);
            case 2:
                return pages.tos.at(slot);
            case 3:
                return pages.values.at(slot);
            default:
                return NO_SUCH;
        }
    }

    public int room(int what) {
        switch (what) {
            case 0:
                return state.pages.kinds.size;
            case 1:
                return state.pages.allEntries();
            case 2:
                return state.pages.endedPages();
            case 3:
                return state.rootPages.size;
            case 4:
                return state.pages.copies();
            case 5:
                return entriesByTime();
            default:
                return NONE;
        }
    }

    public boolean hold(int slot) {
        if (!isSlot(slot)) {
            return false;
        }
        slots[slot].copyFrom(state);
        slots[slot].filled = true;
        return true;
    }

    public boolean restore(int slot) {
        if (!isSlot(slot) || !slots[slot].filled) {
            return false;
        }
        state.copyFrom(slots[slot]);
        return true;
    }

    public int count(int what) {
        int now = state.history.now();
        switch (what) {
            case 0:
                return now;
            case 1:
                return state.history.live;
            case 2:
                return state.pages.most;
            case 3:
                return state.pages.weak();
            case 4:
                return begun;
            case 5:
                return idle;
            case 6:
                return tape.size;
            case 7:
                return filledSlots();
            case 8:
                return keyAsker.fromKeyDown(KEYS - 1, now);
            case 9:
                return keyAsker.fromKeyUp(0, now);
            case 10:
                return state.pages.madeAt(now);
            default:
                return NONE;
        }
    }

    private void feedFour(int bytes) {
        for (int shift = 24; shift >= 0; shift -= 8) {
            tape.add((bytes >>> shift) & 255);
        }
    }

    private void emptySlots() {
        for (int slot = 0; slot < SLOTS; slot++) {
            if (isSlot(slot)) {
                slots[slot].filled = false;
            }
        }
    }

    private int filledSlots() {
        int filled = 0;
        for (int slot = 0; slot < SLOTS; slot++) {
            if (isSlot(slot) && slots[slot].filled) {
                filled++;
            }
        }
        return filled;
    }

    private void tellAll() {
        begun = 0;
        idle = 0;
        teller.start();
        for (int n = 0; n < BEGUN_MOST && teller.goOn(); n++) {
            boolean done = teller.told == PUT
                    ? grower.bring(teller.key, teller.number) : grower.drop(teller.key);
            begun++;
            if (!done) {
                idle++;
            }
        }
    }

    private int entriesByTime() {
        int now = state.history.now();
        return now > 0 ? state.pages.allEntries() * 1000 / now : 0;
    }

    private boolean isTime(int t) {
        return t >= 0 && t <= state.history.now();
    }

    private boolean isSpan(int t, int u) {
        return isTime(t) && isTime(u) && t <= u;
    }

    private boolean isSlot(int slot) {
        return slot >= 0 && slot < slots.length && slots[slot] != null;
    }

    private static boolean isKey(int key) {
        return key >= 0 && key < KEYS;
    }

    private static boolean isRange(int lo, int hi) {
        return isKey(lo) && isKey(hi);
    }

    private static boolean isEither(int what) {
        return what == 0 || what == 1;
    }

    /** Ints that may be asked for at any place: beside them there are only zeros, so no index goes wrong. */
    private static final class Row {
        /** Far above what any run keeps in one row. */
        private static final int CELLS_MOST = 1 << 20;

        private int[] cells;
        int size;

        Row(int firstRoom) {
            cells = new int[Math.max(1, firstRoom)];
            size = 0;
        }

        int at(int place) {
            return place >= 0 && place < size ? cells[place] : 0;
        }

        void change(int place, int cell) {
            if (place >= 0 && place < size) {
                cells[place] = cell;
            }
        }

        void add(int cell) {
            if (size >= CELLS_MOST) {
                return;
            }
            if (size >= cells.length) {
                cells = Arrays.copyOf(cells, size * 2);
            }
            cells[size] = cell;
            size++;
        }

        void shorten(int length) {
            if (length >= 0 && length < size) {
                size = length;
            }
        }

        void fill(int length, int cell) {
            if (length < 0 || length > CELLS_MOST) {
                return;
            }
            if (length > cells.length) {
                cells = new int[length];
            }
            for (int n = 0; n < length && n < cells.length; n++) {
                cells[n] = cell;
            }
            size = length;
        }

        void copyFrom(Row other) {
            if (cells.length < other.size) {
                cells = new int[other.cells.length];
            }
            System.arraycopy(other.cells, 0, cells, 0, other.size);
            size = other.size;
        }
    }

    /** Cuts the tape into TOKENS, up to the text's end, what is no TOKEN, or the first that is too many. */
    private static final class Lexer {
        private final Row text;
        final Row kinds;
        final Row numbers;
        final Row places;

        Lexer(Row text) {
            this.text = text;
            kinds = new Row(64);
            numbers = new Row(64);
            places = new Row(64);
        }

        void lexAll() {
            kinds.shorten(0);
            numbers.shorten(0);
            places.shorten(0);
            int at = 0;
            for (int n = 0; n <= TOKENS_MOST; n++) {
                at = lexOne(pastBlanks(at));
                int kind = kinds.at(n);
                if (kind == STOP || kind == NO_TOKEN) {
                    return;
                }
            }
        }

        private int pastBlanks(int from) {
            int at = from;
            while (at < text.size && isBlank(text.at(at))) {
                at++;
            }
            return at;
        }

        /** Keeps the TOKEN that begins here; answers where the next may begin. */
        private int lexOne(int from) {
            int first = text.at(from);
            if (from >= text.size) {
                keep(STOP, 0, from);
            } else if (isLetter(first)) {
                return lexWord(from);
            } else if (isDigit(first)) {
                return lexInt(from);
            } else {
                keep(SIGNS.indexOf((char) first) >= 0 ? first : NO_TOKEN, 0, from);
            }
            return from + 1;
        }

        private int lexWord(int from) {
            int to = from;
            while (to < text.size && isLetter(text.at(to))) {
                to++;
            }
            keep(to - from > LETTERS_MOST ? NO_TOKEN : kindOfWord(from, to), 0, from);
            return to;
        }

        private int lexInt(int from) {
            int to = from;
            int number = 0;
            while (to < text.size && isDigit(text.at(to))) {
                number = number * 10 + text.at(to) - '0';
                to++;
            }
            keep(to - from > DIGITS_MOST ? NO_TOKEN : INT, number, from);
            return to;
        }

        private int kindOfWord(int from, int to) {
            if (spells(from, to, "put")) {
                return PUT;
            }
            if (spells(from, to, "cut")) {
                return CUT;
            }
            if (spells(from, to, "do")) {
                return DO;
            }
            if (spells(from, to, "end")) {
                return END;
            }
            if (spells(from, to, "page")) {
                return PAGE;
            }
            return kindOfVar(from, to);
        }

        private int kindOfVar(int from, int to) {
            if (spells(from, to, "i")) {
                return VAR_I;
            }
            if (spells(from, to, "j")) {
                return VAR_J;
            }
            if (spells(from, to, "time")) {
                return VAR_TIME;
            }
            if (spells(from, to, "live")) {
                return VAR_LIVE;
            }
            if (spells(from, to, "last")) {
                return VAR_LAST;
            }
            return spells(from, to, "pages") ? VAR_PAGES : NO_TOKEN;
        }

        private boolean spells(int from, int to, String word) {
            if (to - from != word.length()) {
                return false;
            }
            for (int n = 0; n < word.length(); n++) {
                if (text.at(from + n) != word.charAt(n)) {
                    return false;
                }
            }
            return true;
        }

        private void keep(int kind, int number, int from) {
            kinds.add(kind);
            numbers.add(number);
            places.add(from);
        }

        private static boolean isBlank(int sign) {
            return sign == 9 || sign == 10 || sign == 13 || sign == 32;
        }

        private static boolean isLetter(int sign) {
            return sign >= 'a' && sign <= 'z';
        }

        private static boolean isDigit(int sign) {
            return sign >= '0' && sign <= '9';
        }
    }

    /** Finds the FAULT of a text, and what its telling needs: B, and where each DO and its END are. */
    private static final class Parser {
        private final Lexer tokens;
        private final Row openDos;
        /** Of a DO where its END stands, of an END where its DO stands. */
        final Row partners;
        /** Of a DO 1, if every round of it begins a PUT or a CUT: the others can be passed over. */
        final Row acts;
        private int at;
        private int wrongPlace;
        int fault;
        int faultPlace;
        int most;

        Parser(Lexer tokens) {
            this.tokens = tokens;
            openDos = new Row(DO_MOST);
            partners = new Row(64);
            acts = new Row(64);
        }

        void parseAll() {
            at = 0;
            fault = 0;
            faultPlace = NONE;
            wrongPlace = NONE;
            most = USUAL_MOST;
            openDos.shorten(0);
            partners.fill(tokens.kinds.size, NONE);
            acts.fill(tokens.kinds.size, 0);
            parsePage();
            for (int n = 0; n <= TOKENS_MOST && fault == 0 && !atEnd(); n++) {
                parseTell();
            }
            if (fault != 0) {
                faultPlace = tokens.places.at(at);
            } else if (wrongPlace != NONE) {
                fault = WRONG;
                faultPlace = wrongPlace;
            }
        }

        private boolean atEnd() {
            return ahead() == STOP && openDos.size == 0;
        }

        private int ahead() {
            return tokens.kinds.at(at);
        }

        private void parsePage() {
            if (ahead() == PAGE) {
                take();
                most = takeNumber(LEAST_PAGE, GREATEST_PAGE);
                takeKind(';');
            }
        }

        private void parseTell() {
            switch (ahead()) {
                case PUT:
                    markAct();
                    take();
                    parseExpression();
                    parseExpression();
                    takeKind(';');
                    break;
                case CUT:
                    markAct();
                    take();
                    parseExpression();
                    takeKind(';');
                    break;
                case DO:
                    parseDo();
                    break;
                case END:
                    parseEnd();
                    break;
                default:
                    fail(SYNTAX);
                    break;
            }
        }

        private void parseDo() {
            if (openDos.size >= DO_MOST) {
                fail(ROOM);
                return;
            }
            openDos.add(at);
            take();
            takeNumber(0, ROUNDS_MOST);
            takeKind(';');
        }

        private void parseEnd() {
            if (openDos.size == 0) {
                fail(SYNTAX);
                return;
            }
            int start = openDos.at(openDos.size - 1);
            openDos.shorten(openDos.size - 1);
            partners.change(start, at);
            partners.change(at, start);
            if (tokens.numbers.at(start + 1) == 0) {
                acts.change(start, 0);
            } else if (acts.at(start) == 1) {
                markAct();
            }
            take();
            takeKind(';');
        }

        private void markAct() {
            if (openDos.size > 0) {
                acts.change(openDos.at(openDos.size - 1), 1);
            }
        }

        /** E needs no recursion to be checked: how many ( are open, and whether a UNIT is due, tell all. */
        private void parseExpression() {
            int open = 0;
            boolean unitIsDue = true;
            for (int n = 0; n <= TOKENS_MOST && fault == 0; n++) {
                int kind = ahead();
                if (unitIsDue && kind == '(') {
                    open++;
                    if (open > OPEN_MOST) {
                        fail(ROOM);
                    }
                } else if (unitIsDue && isUnit(kind)) {
                    unitIsDue = false;
                } else if (unitIsDue) {
                    fail(SYNTAX);
                } else if (isOperator(kind)) {
                    unitIsDue = true;
                } else if (open == 0) {
                    return;
                } else if (kind == ')') {
                    open--;
                } else {
                    fail(SYNTAX);
                }
                take();
            }
        }

        private static boolean isUnit(int kind) {
            return kind == INT || kind >= VAR_I && kind <= VAR_PAGES;
        }

        private static boolean isOperator(int kind) {
            return kind == '+' || kind == '-' || kind == '*' || kind == '/' || kind == '%';
        }

        private int takeNumber(int least, int greatest) {
            int number = tokens.numbers.at(at);
            if (ahead() == INT && wrongPlace == NONE && (number < least || number > greatest)) {
                wrongPlace = tokens.places.at(at);
            }
            takeKind(INT);
            return number;
        }

        private void takeKind(int kind) {
            if (ahead() != kind) {
                fail(SYNTAX);
            }
            take();
        }

        private void take() {
            if (at >= TOKENS_MOST) {
                fail(ROOM);
            }
            if (fault == 0) {
                at++;
            }
        }

        /** The first one counts; from then on no TOKEN is taken, so its place stays where it is. */
        private void fail(int number) {
            if (fault == 0) {
                fault = number;
            }
        }
    }

    /** Goes through a text without a FAULT, from one PUT or CUT to the next. */
    private static final class Teller {
        /** Far more steps than 400 TOKENS can need from one PUT or CUT to the next. */
        private static final int STEPS_MOST = 10000;

        private final Lexer tokens;
        private final Parser parser;
        private final State state;
        private final Row rounds;
        private int at;
        private int last;
        int told;
        int key;
        int number;

        Teller(Lexer tokens, Parser parser, State state) {
            this.tokens = tokens;
            this.parser = parser;
            this.state = state;
            rounds = new Row(DO_MOST);
        }

        void start() {
            at = tokens.kinds.at(0) == PAGE ? 3 : 0;
            last = 0;
            rounds.shorten(0);
        }

        /** Works out the next PUT or CUT; false: the text is at its end. */
        boolean goOn() {
            for (int n = 0; n < STEPS_MOST; n++) {
                told = tokens.kinds.at(at);
                switch (told) {
                    case PUT:
                        at++;
                        key = Math.floorMod(total(0), KEYS);
                        number = total(0);
                        last = key;
                        at++;
                        return true;
                    case CUT:
                        at++;
                        key = Math.floorMod(total(0), KEYS);
                        at++;
                        return true;
                    case DO:
                        beginDo();
                        break;
                    case END:
                        endRound();
                        break;
                    default:
                        return false;
                }
            }
            return false;
        }

        private void beginDo() {
            if (parser.acts.at(at) == 1) {
                rounds.add(0);
                at += 3;
            } else {
                at = parser.partners.at(at) + 2;
            }
        }

        private void endRound() {
            int start = parser.partners.at(at);
            int round = rounds.at(rounds.size - 1) + 1;
            if (round < tokens.numbers.at(start + 1)) {
                rounds.change(rounds.size - 1, round);
                at = start + 3;
            } else {
                rounds.shorten(rounds.size - 1);
                at += 2;
            }
        }

        private int total(int depth) {
            int total = product(depth);
            for (int n = 0; n < TOKENS_MOST; n++) {
                int sign = tokens.kinds.at(at);
                if (sign != '+' && sign != '-') {
                    break;
                }
                at++;
                int part = product(depth);
                total = sign == '+' ? total + part : total - part;
            }
            return total;
        }

        private int product(int depth) {
            int product = unit(depth);
            for (int n = 0; n < TOKENS_MOST; n++) {
                int sign = tokens.kinds.at(at);
                if (sign != '*' && sign != '/' && sign != '%') {
                    break;
                }
                at++;
                int by = unit(depth);
                if (sign == '*') {
                    product = product * by;
                } else if (by == 0) {
                    product = 0;
                } else {
                    product = sign == '/' ? product / by : product % by;
                }
            }
            return product;
        }

        private int unit(int depth) {
            int kind = tokens.kinds.at(at);
            int unit = kind == INT ? tokens.numbers.at(at) : variable(kind);
            at++;
            if (kind == '(' && depth < OPEN_MOST) {
                unit = total(depth + 1);
                at++;
            }
            return unit;
        }

        private int variable(int kind) {
            switch (kind) {
                case VAR_I:
                    return rounds.at(rounds.size - 1);
                case VAR_J:
                    return rounds.at(rounds.size - 2);
                case VAR_TIME:
                    return state.history.now();
                case VAR_LIVE:
                    return state.history.live;
                case VAR_LAST:
                    return last;
                case VAR_PAGES:
                    return state.pages.kinds.size;
                default:
                    return 0;
            }
        }
    }

    /** All that a SLOT holds: pages, what happened at each time, and the ROOTS by time. */
    private static final class State {
        final Pages pages;
        final History history;
        final Row rootFroms;
        final Row rootPages;
        boolean filled;

        State() {
            pages = new Pages();
            history = new History();
            rootFroms = new Row(8);
            rootPages = new Row(8);
            filled = false;
        }

        void reset(int most) {
            pages.reset(most);
            history.reset();
            rootFroms.shorten(0);
            rootPages.shorten(0);
            addRoot(pages.open(LEAF, 0), 0);
        }

        void copyFrom(State other) {
            pages.copyFrom(other.pages);
            history.copyFrom(other.history);
            rootFroms.copyFrom(other.rootFroms);
            rootPages.copyFrom(other.rootPages);
        }

        void addRoot(int page, int t) {
            rootFroms.add(t);
            rootPages.add(page);
        }

        int rootAt(int t) {
            for (int n = rootFroms.size - 1; n > 0; n--) {
                if (rootFroms.at(n) <= t) {
                    return rootPages.at(n);
                }
            }
            return rootPages.at(0);
        }

        /** Leaves the WAY of a KEY in a row. */
        void trace(Row way, int key, int t) {
            way.shorten(0);
            int page = rootAt(t);
            way.add(page);
            for (int level = 1; level < LEVELS_MOST && !pages.isLeaf(page); level++) {
                page = pages.values.at(pages.slotToward(page, key, t));
                way.add(page);
            }
        }
    }

    /**
     * What happened at each time: a PUT or a CUT of a KEY. As every PUT has a time of its own, a
     * VERSION is known by its FROM, and its TO and value stand at that place of the rows.
     */
    private static final class History {
        final Row keys;
        final Row puts;
        final Row values;
        final Row tos;
        int live;

        History() {
            keys = new Row(16);
            puts = new Row(16);
            values = new Row(16);
            tos = new Row(16);
            live = 0;
        }

        void reset() {
            live = 0;
            keys.fill(1, NONE);
            puts.fill(1, 0);
            values.fill(1, 0);
            tos.fill(1, 0);
        }

        void copyFrom(History other) {
            live = other.live;
            keys.copyFrom(other.keys);
            puts.copyFrom(other.puts);
            values.copyFrom(other.values);
            tos.copyFrom(other.tos);
        }

        int now() {
            return keys.size - 1;
        }

        /** A PUT or a CUT happens; answers its time. */
        int happen(int put, int key, int value) {
            int t = keys.size;
            int before = livingFrom(key, t - 1);
            if (before != NONE) {
                tos.change(before, t);
                live--;
            }
            live += put;
            keys.add(key);
            puts.add(put);
            values.add(value);
            tos.add(LACKS);
            return t;
        }

        /** FROM of the VERSION of a KEY that lives at a time: only the latest one begun by then can. */
        int livingFrom(int key, int t) {
            for (int from = t; from > 0; from--) {
                if (keys.at(from) == key) {
                    return puts.at(from) == 1 ? from : NONE;
                }
            }
            return NONE;
        }

        /** Whether what began at one time, if anything did, lives at another. */
        boolean livesAt(int from, int t) {
            int to = tos.at(from);
            return puts.at(from) == 1 && from <= t && (to == LACKS || t < to);
        }

        boolean isVersion(int from, int key) {
            return keys.at(from) == key && puts.at(from) == 1;
        }

        int versionsOf(int key) {
            int found = 0;
            for (int from = 1; from < keys.size; from++) {
                if (isVersion(from, key)) {
                    found++;
                }
            }
            return found;
        }

        /** FROM of the i-th VERSION of a KEY. */
        int versionFrom(int key, int i) {
            int left = i;
            for (int from = 1; from < keys.size && left >= 0; from++) {
                if (isVersion(from, key)) {
                    if (left == 0) {
                        return from;
                    }
                    left--;
                }
            }
            return NONE;
        }

        int lengthOf(int from) {
            int to = tos.at(from);
            return (to == LACKS ? keys.size : to) - from;
        }
    }

    /** All pages; the ENTRIES of one stand in B cells that belong to it, in the order they came. */
    private static final class Pages {
        final Row kinds;
        final Row sizes;
        final Row mades;
        final Row ends;
        final Row keys;
        final Row values;
        final Row froms;
        final Row tos;
        int most;

        Pages() {
            kinds = new Row(8);
            sizes = new Row(8);
            mades = new Row(8);
            ends = new Row(8);
            keys = new Row(32);
            values = new Row(32);
            froms = new Row(32);
            tos = new Row(32);
            most = USUAL_MOST;
        }

        void reset(int b) {
            most = b;
            kinds.shorten(0);
            sizes.shorten(0);
            mades.shorten(0);
            ends.shorten(0);
            keys.shorten(0);
            values.shorten(0);
            froms.shorten(0);
            tos.shorten(0);
        }

        void copyFrom(Pages other) {
            most = other.most;
            kinds.copyFrom(other.kinds);
            sizes.copyFrom(other.sizes);
            mades.copyFrom(other.mades);
            ends.copyFrom(other.ends);
            keys.copyFrom(other.keys);
            values.copyFrom(other.values);
            froms.copyFrom(other.froms);
            tos.copyFrom(other.tos);
        }

        int weak() {
            return most / 4;
        }

        boolean isPage(int page) {
            return page >= 0 && page < kinds.size;
        }

        boolean isLeaf(int page) {
            return kinds.at(page) == LEAF;
        }

        int firstSlot(int page) {
            return page * most;
        }

        int endSlot(int page) {
            return page * most + sizes.at(page);
        }

        /** Makes a page without ENTRIES; answers its number. */
        int open(int kind, int t) {
            kinds.add(kind);
            sizes.add(0);
            mades.add(t);
            ends.add(LACKS);
            for (int n = 0; n < most; n++) {
                keys.add(0);
                values.add(0);
                froms.add(0);
                tos.add(LACKS);
            }
            return kinds.size - 1;
        }

        void append(int page, int key, int value, int from) {
            int held = sizes.at(page);
            if (held >= most) {
                return;
            }
            int slot = page * most + held;
            keys.change(slot, key);
            values.change(slot, value);
            froms.change(slot, from);
            sizes.change(page, held + 1);
        }

        boolean livesAt(int slot, int t) {
            int to = tos.at(slot);
            return froms.at(slot) <= t && (to == LACKS || t < to);
        }

        int livingIn(int page, int t) {
            int living = 0;
            int end = endSlot(page);
            for (int slot = firstSlot(page); slot < end; slot++) {
                if (livesAt(slot, t)) {
                    living++;
                }
            }
            return living;
        }

        /** The living ENTRY of the greatest bound that is not above a KEY. */
        int slotToward(int page, int key, int t) {
            int best = NONE;
            int end = endSlot(page);
            for (int slot = firstSlot(page); slot < end; slot++) {
                if (livesAt(slot, t) && keys.at(slot) <= key
                        && (best == NONE || keys.at(slot) > keys.at(best))) {
                    best = slot;
                }
            }
            return best;
        }

        /** The living ENTRY of the least bound that is above this one. */
        int slotAfter(int page, int bound, int t) {
            int best = NONE;
            int end = endSlot(page);
            for (int slot = firstSlot(page); slot < end; slot++) {
                if (livesAt(slot, t) && keys.at(slot) > bound
                        && (best == NONE || keys.at(slot) < keys.at(best))) {
                    best = slot;
                }
            }
            return best;
        }

        int openIn(int page) {
            int open = 0;
            int end = endSlot(page);
            for (int slot = firstSlot(page); slot < end; slot++) {
                if (tos.at(slot) == LACKS) {
                    open++;
                }
            }
            return open;
        }

        int allEntries() {
            int all = 0;
            for (int page = 0; page < kinds.size; page++) {
                all += sizes.at(page);
            }
            return all;
        }

        int endedPages() {
            int ended = 0;
            for (int page = 0; page < kinds.size; page++) {
                if (ends.at(page) != LACKS) {
                    ended++;
                }
            }
            return ended;
        }

        int madeAt(int t) {
            int made = 0;
            for (int page = 0; page < kinds.size; page++) {
                if (mades.at(page) == t) {
                    made++;
                }
            }
            return made;
        }

        /** ENTRIES of LEAVES that were there ahead of their page. */
        int copies() {
            int copied = 0;
            for (int page = 0; page < kinds.size; page++) {
                int end = isLeaf(page) ? endSlot(page) : 0;
                for (int slot = firstSlot(page); slot < end; slot++) {
                    if (froms.at(slot) < mades.at(page)) {
                        copied++;
                    }
                }
            }
            return copied;
        }
    }

    /** The row of living ENTRIES, by KEY or bound, by which a page is REPLACED. */
    private static final class Batch {
        /** Two full pages and the new ones are fewer. */
        private static final int ENTRIES_MOST = 32;

        final int[] keys;
        final int[] values;
        final int[] froms;
        int size;

        Batch() {
            keys = new int[ENTRIES_MOST];
            values = new int[ENTRIES_MOST];
            froms = new int[ENTRIES_MOST];
            size = 0;
        }

        void insert(int key, int value, int from) {
            if (size < 0 || size >= ENTRIES_MOST) {
                return;
            }
            int spot = size;
            while (spot > 0 && keys[spot - 1] > key) {
                keys[spot] = keys[spot - 1];
                values[spot] = values[spot - 1];
                froms[spot] = froms[spot - 1];
                spot--;
            }
            keys[spot] = key;
            values[spot] = value;
            froms[spot] = from;
            size++;
        }
    }

    /** PUT and CUT: what they do to the pages. */
    private static final class Grower {
        private final State state;
        private final Pages pages;
        private final Row way;
        private final Batch batch;
        /** Of the pages made latest: the first one's number and bound, the second's bound (NONE: only one). */
        private int firstMade;
        private int firstBound;
        private int secondBound;

        Grower(State state) {
            this.state = state;
            pages = state.pages;
            way = new Row(LEVELS_MOST);
            batch = new Batch();
        }

        /** PUT; false: refused. */
        boolean bring(int key, int value) {
            if (pages.kinds.size >= PAGES_MOST) {
                return false;
            }
            int t = state.history.happen(1, key, value);
            int leaf = endLiving(key, t);
            if (pages.sizes.at(leaf) < pages.most) {
                pages.append(leaf, key, value, t);
            } else {
                batch.size = 0;
                gather(leaf, t);
                batch.insert(key, value, t);
                replaceUp(t);
            }
            return true;
        }

        /** CUT; false: refused, or the KEY does not live. */
        boolean drop(int key) {
            History history = state.history;
            if (pages.kinds.size >= PAGES_MOST || history.livingFrom(key, history.now()) == NONE) {
                return false;
            }
            int t = history.happen(0, key, 0);
            int leaf = endLiving(key, t);
            if (way.size > 1 && pages.livingIn(leaf, t) < pages.weak()) {
                batch.size = 0;
                gather(leaf, t);
                replaceUp(t);
            }
            return true;
        }

        /** Ends the KEY's living ENTRY, if there is one, in the LEAF to which it leads; answers the LEAF. */
        private int endLiving(int key, int t) {
            state.trace(way, key, t);
            int leaf = way.at(way.size - 1);
            int slot = pages.slotToward(leaf, key, t);
            if (slot != NONE && pages.keys.at(slot) == key) {
                pages.tos.change(slot, t);
            }
            return leaf;
        }

        private void gather(int page, int t) {
            int end = pages.endSlot(page);
            for (int slot = pages.firstSlot(page); slot < end; slot++) {
                if (pages.livesAt(slot, t)) {
                    batch.insert(pages.keys.at(slot), pages.values.at(slot), pages.froms.at(slot));
                }
            }
        }

        /** The lowest page of the way is REPLACED by the batch, and those above as far as it asks for it. */
        private void replaceUp(int t) {
            for (int level = way.size - 1; level >= 0; level--) {
                int page = way.at(level);
                if (level > 0) {
                    leaveAbove(page, way.at(level - 1), t);
                }
                pages.ends.change(page, t);
                makePages(pages.kinds.at(page), t);
                if (level == 0) {
                    crown(t);
                } else if (!handUp(level - 1, t)) {
                    return;
                }
            }
        }

        /** Ends a page's ENTRY above, and its SIBLING with its ENTRY if the batch is too short without it. */
        private void leaveAbove(int page, int above, int t) {
            int slot = slotOf(above, page, t);
            firstBound = pages.keys.at(slot);
            int beside = NONE;
            if (batch.size < pages.weak() + 1) {
                beside = pages.slotAfter(above, firstBound, t);
                if (beside == NONE) {
                    beside = pages.slotToward(above, firstBound - 1, t);
                }
            }
            if (beside != NONE) {
                int sibling = pages.values.at(beside);
                gather(sibling, t);
                pages.ends.change(sibling, t);
                pages.tos.change(beside, t);
                firstBound = Math.min(firstBound, pages.keys.at(beside));
            }
            pages.tos.change(slot, t);
        }

        private int slotOf(int above, int page, int t) {
            int end = pages.endSlot(above);
            for (int slot = pages.firstSlot(above); slot < end; slot++) {
                if (pages.values.at(slot) == page && pages.livesAt(slot, t)) {
                    return slot;
                }
            }
            return NONE;
        }

        /** Makes one page of the batch, or two if it is too long. */
        private void makePages(int kind, int t) {
            boolean two = batch.size > pages.most - 2;
            int firsts = two ? batch.size / 2 : batch.size;
            firstMade = pages.open(kind, t);
            int page = firstMade;
            secondBound = NONE;
            for (int n = 0; n < batch.size && n < Batch.ENTRIES_MOST; n++) {
                if (n == firsts) {
                    page = pages.open(kind, t);
                    secondBound = batch.keys[n];
                }
                pages.append(page, batch.keys[n], batch.values[n], batch.froms[n]);
            }
        }

        /** The pages made come into the page above; true: that has to be REPLACED by the batch itself. */
        private boolean handUp(int level, int t) {
            int above = way.at(level);
            int more = secondBound == NONE ? 1 : 2;
            if (pages.sizes.at(above) + more > pages.most) {
                batch.size = 0;
                gather(above, t);
                batch.insert(firstBound, firstMade, t);
                if (more == 2) {
                    batch.insert(secondBound, firstMade + 1, t);
                }
                return true;
            }
            pages.append(above, firstBound, firstMade, t);
            if (more == 2) {
                pages.append(above, secondBound, firstMade + 1, t);
            }
            int living = pages.livingIn(above, t);
            if (level == 0) {
                if (living == 1) {
                    pages.ends.change(above, t);
                    state.addRoot(firstMade, t);
                }
                return false;
            }
            if (living >= pages.weak()) {
                return false;
            }
            batch.size = 0;
            gather(above, t);
            return true;
        }

        /** The page made is the ROOT, or a new one above both. */
        private void crown(int t) {
            int top = firstMade;
            if (secondBound != NONE) {
                top = pages.open(INNER, t);
                pages.append(top, 0, firstMade, t);
                pages.append(top, secondBound, firstMade + 1, t);
            }
            state.addRoot(top, t);
        }
    }

    /** Questions about KEYS: answered from what happened, with a table by KEY where their order counts. */
    private static final class KeyAsker {
        private final History history;
        private final Row table;
        private final Row otherTable;

        KeyAsker(History history) {
            this.history = history;
            table = new Row(KEYS);
            otherTable = new Row(KEYS);
        }

        /** Of each KEY that lives at a time the FROM, of the others NONE. */
        private void fillTable(Row row, int t) {
            row.fill(KEYS, NONE);
            for (int from = 1; from <= t; from++) {
                row.change(history.keys.at(from), history.puts.at(from) == 1 ? from : NONE);
            }
        }

        int livingIn(int lo, int hi, int t) {
            int living = 0;
            for (int from = 1; from <= t; from++) {
                int key = history.keys.at(from);
                if (key >= lo && key <= hi && history.livesAt(from, t)) {
                    living++;
                }
            }
            return living;
        }

        int totalIn(int lo, int hi, int t) {
            int total = 0;
            for (int from = 1; from <= t; from++) {
                int key = history.keys.at(from);
                if (key >= lo && key <= hi && history.livesAt(from, t)) {
                    total += history.values.at(from);
                }
            }
            return total;
        }

        int keyByRank(int rank, int t) {
            fillTable(table, t);
            int left = rank;
            for (int key = 0; key < KEYS; key++) {
                if (table.at(key) != NONE) {
                    if (left == 0) {
                        return key;
                    }
                    left--;
                }
            }
            return LACKS;
        }

        int fromKeyUp(int least, int t) {
            int best = LACKS;
            for (int from = 1; from <= t; from++) {
                int key = history.keys.at(from);
                if (key >= least && (best == LACKS || key < best) && history.livesAt(from, t)) {
                    best = key;
                }
            }
            return best;
        }

        int fromKeyDown(int greatest, int t) {
            int best = LACKS;
            for (int from = 1; from <= t; from++) {
                int key = history.keys.at(from);
                if (key <= greatest && key > best && history.livesAt(from, t)) {
                    best = key;
                }
            }
            return best;
        }

        int differences(int lo, int hi, int t, int u) {
            fillTable(table, t);
            fillTable(otherTable, u);
            int unlike = 0;
            for (int key = lo; key <= hi; key++) {
                int one = table.at(key);
                int other = otherTable.at(key);
                boolean lone = (one == NONE) != (other == NONE);
                if (lone || one != NONE && history.values.at(one) != history.values.at(other)) {
                    unlike++;
                }
            }
            return unlike;
        }

        int livingWithin(int lo, int hi, int t, int u) {
            fillTable(table, t);
            for (int from = t + 1; from <= u; from++) {
                if (history.puts.at(from) == 1) {
                    table.change(history.keys.at(from), from);
                }
            }
            int filled = 0;
            for (int key = lo; key <= hi; key++) {
                if (table.at(key) != NONE) {
                    filled++;
                }
            }
            return filled;
        }

        int timesOf(int key, int t, int u) {
            boolean lives = history.livingFrom(key, t) != NONE;
            int times = lives ? 1 : 0;
            for (int time = t + 1; time <= u; time++) {
                if (history.keys.at(time) == key) {
                    lives = history.puts.at(time) == 1;
                }
                times += lives ? 1 : 0;
            }
            return times;
        }

        int mostLiving(int lo, int hi, int what) {
            table.fill(KEYS, 0);
            int living = 0;
            int best = 0;
            int bestTime = 0;
            for (int time = 1; time < history.keys.size; time++) {
                int key = history.keys.at(time);
                if (key >= lo && key <= hi) {
                    living += history.puts.at(time) - table.at(key);
                    table.change(key, history.puts.at(time));
                }
                if (living > best) {
                    best = living;
                    bestTime = time;
                }
            }
            return what == 0 ? bestTime : best;
        }

        int longestVersion(int key, int what) {
            int number = 0;
            int best = LACKS;
            int bestLength = LACKS;
            for (int from = 1; from < history.keys.size; from++) {
                if (history.isVersion(from, key)) {
                    if (history.lengthOf(from) > bestLength) {
                        best = number;
                        bestLength = history.lengthOf(from);
                    }
                    number++;
                }
            }
            return what == 0 ? best : bestLength;
        }

        int mostVersions(int lo, int hi, int what) {
            table.fill(KEYS, 0);
            for (int from = 1; from < history.keys.size; from++) {
                int key = history.keys.at(from);
                table.change(key, table.at(key) + history.puts.at(from));
            }
            int best = LACKS;
            for (int key = lo; key <= hi; key++) {
                if (table.at(key) > table.at(best)) {
                    best = key;
                }
            }
            return what == 0 || best == LACKS ? best : table.at(best);
        }

        int widestGap(int t, int what) {
            fillTable(table, t);
            int before = NONE;
            int best = LACKS;
            int bestWidth = LACKS;
            for (int key = 0; key < KEYS; key++) {
                if (table.at(key) != NONE) {
                    if (before != NONE && key - before > bestWidth) {
                        best = before;
                        bestWidth = key - before;
                    }
                    before = key;
                }
            }
            return what == 0 ? best : bestWidth;
        }
    }

    /** Questions about pages as of a time. */
    private static final class PageAsker {
        private final State state;
        private final Pages pages;
        private final Row way;
        private final Row come;

        PageAsker(State state) {
            this.state = state;
            pages = state.pages;
            way = new Row(LEVELS_MOST);
            come = new Row(16);
        }

        int levels(int t) {
            state.trace(way, 0, t);
            return way.size;
        }

        int leafOf(int key, int t) {
            state.trace(way, key, t);
            return way.at(way.size - 1);
        }

        int pageOnWay(int key, int t, int i) {
            state.trace(way, key, t);
            return i >= 0 && i < way.size ? way.at(i) : NONE;
        }

        int pagesFor(int lo, int hi, int t) {
            comeTo(lo, hi, t);
            return come.size;
        }

        int weakPages(int t) {
            comeTo(0, KEYS - 1, t);
            int weak = 0;
            for (int n = 1; n < come.size; n++) {
                if (pages.livingIn(come.at(n), t) < pages.weak()) {
                    weak++;
                }
            }
            return weak;
        }

        int heldAt(int t, int what) {
            comeTo(0, KEYS - 1, t);
            int leaves = 0;
            int living = 0;
            int free = 0;
            for (int n = 0; n < come.size; n++) {
                int page = come.at(n);
                leaves += pages.kinds.at(page);
                living += pages.livingIn(page, t);
                free += pages.most - pages.sizes.at(page);
            }
            switch (what) {
                case 0:
                    return leaves;
                case 1:
                    return come.size - leaves;
                case 2:
                    return living;
                case 3:
                    return free;
                default:
                    return NONE;
            }
        }

        /** Leaves in a row all pages that are come to for a RANGE, the ROOT first. */
        private void comeTo(int lo, int hi, int t) {
            come.shorten(0);
            come.add(state.rootAt(t));
            for (int n = 0; n < come.size && n < WALK_MOST; n++) {
                if (!pages.isLeaf(come.at(n))) {
                    comeBelow(come.at(n), lo, hi, t);
                }
            }
        }

        private void comeBelow(int page, int lo, int hi, int t) {
            int end = pages.endSlot(page);
            for (int slot = pages.firstSlot(page); slot < end && lo <= hi; slot++) {
                if (!pages.livesAt(slot, t)) {
                    continue;
                }
                int bound = pages.keys.at(slot);
                int after = pages.slotAfter(page, bound, t);
                boolean isLeast = pages.slotToward(page, bound - 1, t) == NONE;
                boolean endsBehindLo = after == NONE || lo < pages.keys.at(after);
                if (endsBehindLo && (isLeast || bound <= hi)) {
                    come.add(pages.values.at(slot));
                }
            }
        }
    }
}
