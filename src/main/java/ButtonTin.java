/** A dressmaker's tin of buttons: told in a text, sorted by rules, asked what parts, matches and holds. */
public final class ButtonTin {
    public static final int NONE = -1, UNKNOWN = -1000000001, OUTSIDE = -1000000002, NOT = -1000000003, FULL = -1000000004;

    private static final int LETTERS = 240, BUTTONS = 12, RULES = 6, NEEDS = 5, HEAPS = 6, MARKS = 4, TESTS = 120;

    /** The kinds of clauses, in the order of the tables below. */
    private static final int CHILD = 0, BUTTON = 1, RULE = 2, CAUSE = 3, NEED = 4, KINDS = 5;
    private static final String WORDS = "tbrun";
    private static final int[] MOST = {1, 12, 6, 5, 5};
    private static final int[] FIRST_ROW = {0, 1, 13, 19, 24};
    private static final int ROWS = 29, PARTS = 4;
    private static final int[] NUMBERS = {1, 4, 4, 4, 1};
    private static final int[] LOW = {0, 0, 0, 0,  0, 1, 0, 0,  0, 0, 0, 0,  0, 1, 0, 0,  0, 0, 0, 0};
    private static final int[] HIGH = {100, 0, 0, 0,  4, 9, 5, 1,  3, 2, 9, 5,  4, 9, 5, 1,  99, 0, 0, 0};

    private static final int CANNOT_STAND = 1, BAD_NUMBER = 2, ONE_TOO_MANY = 3;

    /** Where a button is: 0 to 5 is a heap; SEWN and more is the need SEWN less. */
    private static final int IN_TIN = 6, AT_EDGE = 7, SEWN = 8;

    private static final int THREAD = 3, THREAD_WEAKENS = 5;
    private static final int IS = 0, OR_MORE = 1;
    private static final int MOST_SORTED = 999999, MOST_UNDONE = 16, MOST_ENTRIES = 15, IMAGES = 2;
    private static final int MOST_DRIFTS = 60, MOST_CHILD = 60, MOST_LOAD = 999;
    private static final int HUNDRED = 100, TAKEN_FROM = 90;
    private static final int BILLION = 1000000000;
    private static final int HOW_MUCH = -2;

    private final Reader reader = new Reader();
    private final Bench bench = new Bench();
    private final Past past = new Past();
    private final Book book = new Book();
    private final Draws draws = new Draws();
    private final Image[] images = new Image[IMAGES];
    private final Fitting fitting = new Fitting(bench);
    private final Matching matching = new Matching(bench);
    private Telling spare = new Telling();
    private int faultLetter = NONE;

    public ButtonTin() {
        for (int i = 0; i < IMAGES; i++) {
            images[i] = new Image();
        }
    }

    // ---- the tin

    public int feed(int letter) {
        if (letter < 0 || letter > 255) {
            return OUTSIDE;
        }
        if (reader.length >= LETTERS) {
            return FULL;
        }
        reader.add(letter);
        return reader.length;
    }

    public int tin() {
        int found = reader.readInto(spare);
        if (found != 0) {
            faultLetter = reader.at;
            reader.clear();
            return -10 - found;
        }
        faultLetter = NONE;
        reader.clear();
        Telling old = bench.telling;
        bench.telling = spare;
        spare = old;
        bench.cloth.layOut(bench.telling);
        book.clear();
        past.clear();
        for (int i = 0; i < IMAGES; i++) {
            images[i].kept = false;
        }
        return bench.count(BUTTON);
    }

    public int fault() {
        return faultLetter;
    }

    public int told(int what) {
        switch (what) {
            case 0: return bench.errs();
            case 1: return bench.count(BUTTON);
            case 2: return bench.count(RULE);
            case 3: return bench.count(CAUSE);
            case 4: return bench.count(NEED);
            case 5: return reader.length;
            case 6: return bench.at(IN_TIN);
            case 7: return bench.at(AT_EDGE);
            case 8: return bench.from(SEWN, SEWN + NEEDS);
            case 9: return bench.cloth.sorted;
            case 10: return bench.out();
            case 11: return bench.inWrongHeap();
            case 12: return bench.idle();
            case 13: return bench.heaviest();
            case 14: return book.size;
            case 15: return past.size;
            default: return OUTSIDE;
        }
    }

    public int button(int b, int what) {
        if (!isThere(BUTTON, b)) {
            return UNKNOWN;
        }
        if (what >= 0 && what < MARKS) {
            return bench.mark(b, what);
        }
        switch (what) {
            case 4: return bench.holds(b);
            case 5: return bench.heapOf(b);
            case 6: return bench.isSewn(b) ? bench.cloth.place[b] - SEWN : NONE;
            case 7: return bench.goal(b);
            default: return OUTSIDE;
        }
    }

    public int rule(int r, int what) {
        if (!isThere(RULE, r)) {
            return UNKNOWN;
        }
        if (what >= 0 && what < PARTS) {
            return bench.telling.value(RULE, r, what);
        }
        return what == PARTS ? bench.placeOfRule(r) : OUTSIDE;
    }

    public int cause(int c, int m) {
        if (!isThere(CAUSE, c)) {
            return UNKNOWN;
        }
        return m >= 0 && m < MARKS ? bench.telling.value(CAUSE, c, m) : OUTSIDE;
    }

    public int need(int n, int what) {
        if (!isThere(NEED, n)) {
            return UNKNOWN;
        }
        switch (what) {
            case 0: return bench.weight(n);
            case 1: return bench.sewnTo(n);
            default: return OUTSIDE;
        }
    }

    public int heap(int h) {
        return isHeap(h) ? bench.at(h) : OUTSIDE;
    }

    // ---- what is done

    public int put(int b, int h) {
        if (!isThere(BUTTON, b)) {
            return UNKNOWN;
        }
        if (!isHeap(h)) {
            return OUTSIDE;
        }
        if (bench.isSewn(b) || bench.cloth.place[b] == h) {
            return NOT;
        }
        past.remember(bench.cloth);
        bench.cloth.place[b] = h;
        return bench.at(h);
    }

    public int takeBack(int b) {
        if (!isThere(BUTTON, b)) {
            return UNKNOWN;
        }
        if (bench.isSewn(b) || bench.cloth.place[b] == IN_TIN) {
            return NOT;
        }
        past.remember(bench.cloth);
        bench.cloth.place[b] = IN_TIN;
        return bench.at(IN_TIN);
    }

    public int sort() {
        int all = bench.at(IN_TIN);
        if (all == 0) {
            return NOT;
        }
        past.remember(bench.cloth);
        for (int b = 0; b < BUTTONS; b++) {
            if (has(all, b)) {
                bench.sortAlone(b);
            }
        }
        return Integer.bitCount(all);
    }

    public int sew(int b, int n) {
        if (!isThere(BUTTON, b) || !isThere(NEED, n)) {
            return UNKNOWN;
        }
        if (bench.isSewn(b) || bench.sewnTo(n) != NONE || bench.holds(b) < bench.weight(n)) {
            return NOT;
        }
        past.remember(bench.cloth);
        bench.cloth.place[b] = SEWN + n;
        return bench.holds(b);
    }

    public int unpick(int n) {
        if (!isThere(NEED, n)) {
            return UNKNOWN;
        }
        int b = bench.sewnTo(n);
        if (b == NONE) {
            return NOT;
        }
        past.remember(bench.cloth);
        bench.cloth.place[b] = IN_TIN;
        bench.cloth.threads |= 1 << b;
        return b;
    }

    public int pull(int b) {
        if (!isThere(BUTTON, b)) {
            return UNKNOWN;
        }
        if (bench.isSewn(b) || !has(bench.cloth.threads, b)) {
            return NOT;
        }
        past.remember(bench.cloth);
        bench.cloth.threads &= ~(1 << b);
        return bench.holds(b);
    }

    public int up(int r) {
        if (!isThere(RULE, r)) {
            return UNKNOWN;
        }
        int place = bench.placeOfRule(r);
        if (place <= 0) {
            return NOT;
        }
        past.remember(bench.cloth);
        int[] order = bench.cloth.order;
        order[place] = order[place - 1];
        order[place - 1] = r;
        return place - 1;
    }

    public int drift(int n) {
        if (n < 1 || n > MOST_DRIFTS) {
            return OUTSIDE;
        }
        if (bench.count(CHILD) == 0) {
            return NOT;
        }
        past.remember(bench.cloth);
        if (bench.count(BUTTON) > 0) {
            for (int i = 0; i < n; i++) {
                driftOnce();
            }
        }
        return bench.cloth.sorted;
    }

    public int undo() {
        if (past.size == 0) {
            return NOT;
        }
        past.restore(bench.cloth);
        return past.size;
    }

    // ---- tried

    public int fit(int h, int i) {
        if (!isHeap(h)) {
            return OUTSIDE;
        }
        return bench.at(h) == 0 ? NOT : fitting.fitFor(h, i);
    }

    public int tells(int h) {
        if (!isHeap(h)) {
            return OUTSIDE;
        }
        return bench.at(h) == 0 ? NOT : fitting.bestTeller(h);
    }

    public int teach(int test) {
        return test >= 0 && test < TESTS ? fitting.fewestTeachers(test) : OUTSIDE;
    }

    public int match(int n) {
        if (n != NONE && n != HOW_MUCH && !isThere(NEED, n)) {
            return UNKNOWN;
        }
        matching.solve();
        if (n == NONE) {
            return matching.howMany();
        }
        return n == HOW_MUCH ? matching.howMuch() : matching.given[n];
    }

    public int load(int w) {
        return w >= 1 && w <= MOST_LOAD ? fewestThatHold(w) : OUTSIDE;
    }

    public int slips(int b, int c) {
        if (!isThere(BUTTON, b) || !isThere(CAUSE, c)) {
            return UNKNOWN;
        }
        return bench.unlikeMarks(b, c);
    }

    public int undid(int b, int what) {
        if (!isThere(BUTTON, b)) {
            return UNKNOWN;
        }
        if (what < 0 || what > 2) {
            return OUTSIDE;
        }
        int fewest = bench.fewestSlips(b);
        if (what == 1) {
            return fewest;
        }
        int causes = bench.causesWithSlips(b, fewest);
        if (what == 0) {
            return causes;
        }
        return Integer.bitCount(causes) == 1 ? Integer.numberOfTrailingZeros(causes) : NONE;
    }

    public int change(int b) {
        return isThere(BUTTON, b) ? bench.leastChange(b) : UNKNOWN;
    }

    public int alike(int i) {
        int buttons = bench.count(BUTTON);
        int found = 0;
        for (int b = 0; b < buttons; b++) {
            for (int other = b + 1; other < buttons; other++) {
                if (bench.haveLikeMarks(b, other)) {
                    if (found == i) {
                        return 100 * b + other;
                    }
                    found++;
                }
            }
        }
        return i == NONE ? found : NONE;
    }

    public int child(int n) {
        if (n < 0 || n > MOST_CHILD) {
            return OUTSIDE;
        }
        long odds = BILLION;
        for (int i = 0; i < n; i++) {
            odds = odds * (HUNDRED - bench.errs()) / HUNDRED;
        }
        return (int) odds;
    }

    // ---- books

    public int write(int b, int h) {
        if (!isThere(BUTTON, b)) {
            return UNKNOWN;
        }
        if (h != NONE && !isHeap(h)) {
            return OUTSIDE;
        }
        if (book.size >= MOST_ENTRIES) {
            return FULL;
        }
        book.add(b, h);
        return book.size;
    }

    public int tear() {
        int had = book.size;
        book.clear();
        return had;
    }

    public int judge() {
        return book.firstWrong(bench);
    }

    // ---- draws, images

    public int seed(int v) {
        if (v < 0) {
            return OUTSIDE;
        }
        int was = draws.state;
        draws.state = v;
        return was;
    }

    public int keep(int i) {
        if (i < 0 || i >= IMAGES) {
            return UNKNOWN;
        }
        images[i].cloth.copyFrom(bench.cloth);
        images[i].drawState = draws.state;
        images[i].kept = true;
        past.clear();
        return 1;
    }

    public int goBack(int i) {
        if (i < 0 || i >= IMAGES) {
            return UNKNOWN;
        }
        if (!images[i].kept) {
            return NOT;
        }
        bench.cloth.copyFrom(images[i].cloth);
        draws.state = images[i].drawState;
        past.clear();
        return 1;
    }

    // ---- helpers

    private boolean isThere(int kind, int number) {
        return number >= 0 && number < bench.count(kind);
    }

    private static boolean isHeap(int h) {
        return h >= 0 && h < HEAPS;
    }

    private static boolean has(int set, int k) {
        return (set >> k & 1) == 1;
    }

    /** Both draws are made whatever comes of them, so that the seed goes on alike for every place. */
    private void driftOnce() {
        int b = draws.next(bench.count(BUTTON));
        int chance = draws.next(HUNDRED);
        if (bench.cloth.place[b] == IN_TIN) {
            if (chance < bench.errs()) {
                bench.cloth.place[b] = draws.next(HEAPS);
            } else {
                bench.sortAlone(b);
            }
        } else if (!bench.isSewn(b) && chance >= TAKEN_FROM) {
            bench.cloth.place[b] = IN_TIN;
        }
    }

    /**
     * The strongest buttons give the fewest. A set is less if its greatest button is less, so each
     * button, from the last on, is left out if the strongest of those before it still do.
     */
    private int fewestThatHold(int w) {
        int rest = bench.at(IN_TIN);
        int few = 1;
        while (few <= BUTTONS && bench.mostHeld(rest, few) < w) {
            few++;
        }
        if (few > BUTTONS) {
            return NONE;
        }
        int set = 0;
        int missing = w;
        for (int b = BUTTONS - 1; b >= 0; b--) {
            if (has(rest, b)) {
                rest &= ~(1 << b);
                if (bench.mostHeld(rest, few) < missing) {
                    set |= 1 << b;
                    missing -= bench.holds(b);
                    few--;
                }
            }
        }
        return set;
    }

    /** What a text tells; it stays as it is until another text takes its place. */
    private static final class Telling {
        final int[] count = new int[KINDS];
        final int[] values = new int[ROWS * PARTS];

        void clear() {
            for (int kind = 0; kind < KINDS; kind++) {
                count[kind] = 0;
            }
        }

        int value(int kind, int number, int part) {
            return values[(FIRST_ROW[kind] + number) * PARTS + part];
        }

        void setValue(int kind, int number, int part, int value) {
            values[(FIRST_ROW[kind] + number) * PARTS + part] = value;
        }
    }

    /** THE TEXT, and how it is read. When a fault is found, `at` is its letter. */
    private static final class Reader {
        final int[] letters = new int[LETTERS];
        int length;
        int at;

        void add(int letter) {
            letters[length] = letter;
            length++;
        }

        void clear() {
            length = 0;
        }

        /** The number of the first fault; 0: there is none. */
        int readInto(Telling telling) {
            telling.clear();
            at = 0;
            int found = 0;
            for (int clause = 0; clause < LETTERS && found == 0 && !isAtEnd(); clause++) {
                found = readClause(telling);
            }
            return found;
        }

        private boolean isAtEnd() {
            while (at < length && letters[at] == ' ') {
                at++;
            }
            return at >= length;
        }

        private int readClause(Telling telling) {
            int kind = WORDS.indexOf((char) letters[at]);
            if (kind < 0 || kind != CHILD && telling.count[CHILD] == 0) {
                return CANNOT_STAND;
            }
            int number = telling.count[kind];
            if (number >= MOST[kind]) {
                return ONE_TOO_MANY;
            }
            at++;
            for (int part = 0; part < NUMBERS[kind]; part++) {
                int value = readNumber(kind, part);
                if (value < 0) {
                    return -value;
                }
                telling.setValue(kind, number, part, value);
            }
            if (isAtEnd() || letters[at] != ';') {
                return CANNOT_STAND;
            }
            at++;
            telling.count[kind]++;
            return 0;
        }

        /** The number; or its fault, less than 0. */
        private int readNumber(int kind, int part) {
            if (isAtEnd() || !isFigure(letters[at])) {
                return -CANNOT_STAND;
            }
            int start = at;
            int value = 0;
            while (at < length && isFigure(letters[at])) {
                // four figures are a fault already: more need not be counted, and might overflow
                if (at - start < 4) {
                    value = value * 10 + letters[at] - '0';
                }
                at++;
            }
            if (at - start > 3 || value < LOW[kind * PARTS + part] || value > HIGH[kind * PARTS + part]) {
                at = start;
                return -BAD_NUMBER;
            }
            return value;
        }

        private static boolean isFigure(int letter) {
            return letter >= '0' && letter <= '9';
        }
    }

    /** All that can be undone: where buttons are, which have thread, how rules stand, how many were sorted. */
    private static final class Cloth {
        final int[] place = new int[BUTTONS];
        final int[] order = new int[RULES];
        int threads;
        int sorted;

        void layOut(Telling telling) {
            threads = 0;
            sorted = 0;
            for (int b = 0; b < BUTTONS; b++) {
                place[b] = IN_TIN;
                if (b < telling.count[BUTTON] && telling.value(BUTTON, b, THREAD) == 1) {
                    threads |= 1 << b;
                }
            }
            for (int r = 0; r < RULES; r++) {
                order[r] = r;
            }
        }

        void copyFrom(Cloth other) {
            System.arraycopy(other.place, 0, place, 0, BUTTONS);
            System.arraycopy(other.order, 0, order, 0, RULES);
            threads = other.threads;
            sorted = other.sorted;
        }
    }

    /** What can be undone, in a ring: the oldest gives its room to the newest. */
    private static final class Past {
        private final Cloth[] ring = new Cloth[MOST_UNDONE];
        private int next;
        int size;

        Past() {
            for (int i = 0; i < MOST_UNDONE; i++) {
                ring[i] = new Cloth();
            }
        }

        void clear() {
            size = 0;
        }

        void remember(Cloth cloth) {
            ring[next].copyFrom(cloth);
            next = (next + 1) % MOST_UNDONE;
            size = Math.min(size + 1, MOST_UNDONE);
        }

        void restore(Cloth cloth) {
            next = (next + MOST_UNDONE - 1) % MOST_UNDONE;
            size--;
            cloth.copyFrom(ring[next]);
        }
    }

    private static final class Image {
        final Cloth cloth = new Cloth();
        int drawState;
        boolean kept;
    }

    private static final class Book {
        private final int[] buttons = new int[MOST_ENTRIES];
        private final int[] heaps = new int[MOST_ENTRIES];
        int size;

        void clear() {
            size = 0;
        }

        void add(int b, int h) {
            buttons[size] = b;
            heaps[size] = h;
            size++;
        }

        int firstWrong(Bench bench) {
            for (int i = 0; i < size; i++) {
                if (bench.heapOf(buttons[i]) != heaps[i]) {
                    return i;
                }
            }
            return NONE;
        }
    }

    private static final class Draws {
        private static final long TWO_TO_31 = 2147483648L;

        int state;

        int next(int n) {
            state = (int) ((state * 1103515245L + 12345L) % TWO_TO_31);
            return n > 0 ? state / 65536 % n : 0;
        }
    }

    /** The tin as told and the cloth as it lies: what follows from both. */
    private static final class Bench {
        final Cloth cloth = new Cloth();
        Telling telling = new Telling();

        int count(int kind) {
            return telling.count[kind];
        }

        int errs() {
            return count(CHILD) == 0 ? 0 : telling.value(CHILD, 0, 0);
        }

        int weight(int n) {
            return telling.value(NEED, n, 0);
        }

        int mark(int b, int m) {
            return m == THREAD ? cloth.threads >> b & 1 : telling.value(BUTTON, b, m);
        }

        int holds(int b) {
            int firm = (mark(b, 0) + 1) * mark(b, 1);
            return mark(b, THREAD) == 1 ? Math.max(0, firm - THREAD_WEAKENS) : firm;
        }

        /** The buttons whose place is `first` or more, and less than `end`. */
        int from(int first, int end) {
            int set = 0;
            for (int b = 0; b < count(BUTTON); b++) {
                if (cloth.place[b] >= first && cloth.place[b] < end) {
                    set |= 1 << b;
                }
            }
            return set;
        }

        int at(int place) {
            return from(place, place + 1);
        }

        boolean isSewn(int b) {
            return cloth.place[b] >= SEWN;
        }

        int heapOf(int b) {
            return cloth.place[b] < HEAPS ? cloth.place[b] : NONE;
        }

        int sewnTo(int n) {
            int set = at(SEWN + n);
            return set == 0 ? NONE : Integer.numberOfTrailingZeros(set);
        }

        int placeOfRule(int r) {
            for (int place = 0; place < count(RULE); place++) {
                if (cloth.order[place] == r) {
                    return place;
                }
            }
            return NONE;
        }

        static boolean passes(int mark, int how, int v) {
            if (how == IS) {
                return mark == v;
            }
            return how == OR_MORE ? mark >= v : mark <= v;
        }

        private int firstRule(int b) {
            for (int place = 0; place < count(RULE); place++) {
                int r = cloth.order[place];
                int mark = mark(b, telling.value(RULE, r, 0));
                if (passes(mark, telling.value(RULE, r, 1), telling.value(RULE, r, 2))) {
                    return r;
                }
            }
            return NONE;
        }

        /** The heap to which a button goes. */
        int goal(int b) {
            int r = firstRule(b);
            return r == NONE ? NONE : telling.value(RULE, r, 3);
        }

        void sortAlone(int b) {
            int goal = goal(b);
            cloth.place[b] = goal == NONE ? AT_EDGE : goal;
            cloth.sorted = Math.min(cloth.sorted + 1, MOST_SORTED);
        }

        int out() {
            int set = 0;
            for (int b = 0; b < count(BUTTON); b++) {
                if (goal(b) == NONE) {
                    set |= 1 << b;
                }
            }
            return set;
        }

        int inWrongHeap() {
            int set = 0;
            for (int b = 0; b < count(BUTTON); b++) {
                if (heapOf(b) != NONE && heapOf(b) != goal(b)) {
                    set |= 1 << b;
                }
            }
            return set;
        }

        int idle() {
            int rules = (1 << count(RULE)) - 1;
            for (int b = 0; b < count(BUTTON); b++) {
                int r = firstRule(b);
                if (r != NONE) {
                    rules &= ~(1 << r);
                }
            }
            return rules;
        }

        int heaviest() {
            int heaviest = NONE;
            int most = NONE;
            for (int h = 0; h < HEAPS; h++) {
                int set = at(h);
                int held = mostHeld(set, BUTTONS);
                if (set != 0 && held > most) {
                    most = held;
                    heaviest = h;
                }
            }
            return heaviest;
        }

        /** What the strongest of a set, `few` at most, hold together. */
        int mostHeld(int set, int few) {
            int rest = set;
            int sum = 0;
            for (int i = 0; i < few && rest != 0; i++) {
                int b = strongest(rest);
                rest &= ~(1 << b);
                sum += holds(b);
            }
            return sum;
        }

        private int strongest(int set) {
            int best = Integer.numberOfTrailingZeros(set);
            for (int b = best + 1; b < count(BUTTON); b++) {
                if (has(set, b) && holds(b) > holds(best)) {
                    best = b;
                }
            }
            return best;
        }

        boolean haveLikeMarks(int b, int other) {
            for (int m = 0; m < MARKS; m++) {
                if (mark(b, m) != mark(other, m)) {
                    return false;
                }
            }
            return true;
        }

        int unlikeMarks(int b, int c) {
            int unlike = 0;
            for (int m = 0; m < MARKS; m++) {
                if (mark(b, m) != telling.value(CAUSE, c, m)) {
                    unlike++;
                }
            }
            return unlike;
        }

        int fewestSlips(int b) {
            int fewest = NONE;
            for (int c = 0; c < count(CAUSE); c++) {
                int unlike = unlikeMarks(b, c);
                if (fewest == NONE || unlike < fewest) {
                    fewest = unlike;
                }
            }
            return fewest;
        }

        int causesWithSlips(int b, int slips) {
            int causes = 0;
            for (int c = 0; c < count(CAUSE); c++) {
                if (unlikeMarks(b, c) == slips) {
                    causes |= 1 << c;
                }
            }
            return causes;
        }

        /**
         * As the button passes no test, the nearest V by which it passes one is its own mark,
         * whichever way the test compares.
         */
        int leastChange(int b) {
            if (goal(b) != NONE) {
                return NONE;
            }
            int best = NONE;
            int least = 0;
            for (int place = 0; place < count(RULE); place++) {
                int r = cloth.order[place];
                int mark = mark(b, telling.value(RULE, r, 0));
                int step = Math.abs(mark - telling.value(RULE, r, 2));
                if (best == NONE || step < least) {
                    least = step;
                    best = 10 * r + mark;
                }
            }
            return best;
        }
    }

    /** Tests by number, and the buttons that tell them apart. */
    private static final class Fitting {
        private final Bench bench;
        private final int[] passed = new int[BUTTONS];
        private final int[] partings = new int[TESTS];
        private int parted;

        Fitting(Bench bench) {
            this.bench = bench;
        }

        private int passing(int test) {
            int set = 0;
            for (int b = 0; b < bench.count(BUTTON); b++) {
                if (Bench.passes(bench.mark(b, test / 30), test / 10 % 3, test % 10)) {
                    set |= 1 << b;
                }
            }
            return set;
        }

        private static boolean fits(int passing, int own, int others) {
            return (own & ~passing) == 0 && (others & passing) == 0;
        }

        /** The i-th test that fits a heap; how many, if i is NONE. */
        int fitFor(int h, int i) {
            int own = bench.at(h);
            int others = bench.from(0, HEAPS) & ~own;
            int found = 0;
            for (int test = 0; test < TESTS; test++) {
                if (fits(passing(test), own, others)) {
                    if (found == i) {
                        return test;
                    }
                    found++;
                }
            }
            return i == NONE ? found : NONE;
        }

        int bestTeller(int h) {
            int all = countPassed(h);
            int tin = bench.at(IN_TIN);
            int best = NONE;
            int least = all;
            for (int b = 0; b < bench.count(BUTTON); b++) {
                int greatest = Math.max(passed[b], all - passed[b]);
                if (has(tin, b) && greatest < least) {
                    least = greatest;
                    best = b;
                }
            }
            return best;
        }

        /** How many tests fit a heap; how many of them each button passes is in `passed` then. */
        private int countPassed(int h) {
            int own = bench.at(h);
            int others = bench.from(0, HEAPS) & ~own;
            int all = 0;
            for (int b = 0; b < BUTTONS; b++) {
                passed[b] = 0;
            }
            for (int test = 0; test < TESTS; test++) {
                int passing = passing(test);
                if (fits(passing, own, others)) {
                    all++;
                    for (int b = 0; b < BUTTONS; b++) {
                        passed[b] += passing >> b & 1;
                    }
                }
            }
            return all;
        }

        /** All buttons always teach it; sets rise, so the first of each lesser count is the least. */
        int fewestTeachers(int test) {
            gatherPartings(test);
            int buttons = bench.count(BUTTON);
            int best = (1 << buttons) - 1;
            int fewest = buttons;
            for (int set = 0; set < 1 << buttons; set++) {
                if (Integer.bitCount(set) < fewest && meetsAllPartings(set)) {
                    best = set;
                    fewest = Integer.bitCount(set);
                }
            }
            return best;
        }

        private void gatherPartings(int test) {
            int own = passing(test);
            parted = 0;
            for (int other = 0; other < TESTS; other++) {
                int parting = own ^ passing(other);
                if (parting != 0 && !isMetAnyway(parting)) {
                    partings[parted] = parting;
                    parted++;
                }
            }
        }

        /** A set that meets a part of a parting meets the whole. */
        private boolean isMetAnyway(int parting) {
            for (int i = 0; i < parted; i++) {
                if ((partings[i] & ~parting) == 0) {
                    return true;
                }
            }
            return false;
        }

        private boolean meetsAllPartings(int set) {
            for (int i = 0; i < parted; i++) {
                if ((partings[i] & set) == 0) {
                    return false;
                }
            }
            return true;
        }
    }

    /** Needs matched with buttons of the tin. */
    private static final class Matching {
        /** More than all buttons of a match hold: one more need outweighs whatever it adds. */
        private static final int A_NEED = 1000;

        private final Bench bench;
        private final int[] held = new int[BUTTONS];
        private final int[] asked = new int[NEEDS];
        final int[] given = new int[NEEDS];

        Matching(Bench bench) {
            this.bench = bench;
        }

        /** Need by need, the first choice by which the rest can still come to the best worth. */
        void solve() {
            readWeights();
            int free = bench.at(IN_TIN);
            int open = openNeeds();
            int worth = bestWorth(free, open);
            for (int n = 0; n < NEEDS; n++) {
                given[n] = NONE;
                if (has(open, n)) {
                    open &= ~(1 << n);
                    int b = firstChoice(n, free, open, worth);
                    given[n] = b;
                    if (b != NONE) {
                        free &= ~(1 << b);
                        worth -= A_NEED - held[b];
                    }
                }
            }
        }

        int howMany() {
            int many = 0;
            for (int n = 0; n < NEEDS; n++) {
                many += given[n] == NONE ? 0 : 1;
            }
            return many;
        }

        int howMuch() {
            int sum = 0;
            for (int n = 0; n < NEEDS; n++) {
                sum += given[n] == NONE ? 0 : held[given[n]];
            }
            return sum;
        }

        private void readWeights() {
            for (int b = 0; b < bench.count(BUTTON); b++) {
                held[b] = bench.holds(b);
            }
            for (int n = 0; n < bench.count(NEED); n++) {
                asked[n] = bench.weight(n);
            }
        }

        private int openNeeds() {
            int open = 0;
            for (int n = 0; n < bench.count(NEED); n++) {
                if (bench.sewnTo(n) == NONE) {
                    open |= 1 << n;
                }
            }
            return open;
        }

        private int firstChoice(int n, int free, int open, int worth) {
            for (int b = 0; b < bench.count(BUTTON); b++) {
                if (has(free, b) && held[b] >= asked[n]
                        && A_NEED - held[b] + bestWorth(free & ~(1 << b), open) == worth) {
                    return b;
                }
            }
            return NONE;
        }

        /**
         * What does for a greater need does for a lesser one. So each need, from the least on,
         * takes the weakest button that does: that serves the most, by those who hold least.
         */
        private int bestWorth(int free, int open) {
            int worth = 0;
            int buttons = free;
            int needs = open;
            for (int i = 0; i < NEEDS && needs != 0; i++) {
                int n = leastNeed(needs);
                int b = weakestFor(n, buttons);
                if (b == NONE) {
                    return worth;
                }
                needs &= ~(1 << n);
                buttons &= ~(1 << b);
                worth += A_NEED - held[b];
            }
            return worth;
        }

        private int leastNeed(int needs) {
            int least = Integer.numberOfTrailingZeros(needs);
            for (int n = least + 1; n < NEEDS; n++) {
                if (has(needs, n) && asked[n] < asked[least]) {
                    least = n;
                }
            }
            return least;
        }

        private int weakestFor(int n, int buttons) {
            int weakest = NONE;
            for (int b = 0; b < bench.count(BUTTON); b++) {
                if (has(buttons, b) && held[b] >= asked[n]
                        && (weakest == NONE || held[b] < held[weakest])) {
                    weakest = b;
                }
            }
            return weakest;
        }
    }
}
