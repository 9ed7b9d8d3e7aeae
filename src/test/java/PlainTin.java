import java.util.ArrayDeque;
import java.util.ArrayList;
import java.util.Deque;
import java.util.List;

/**
 * The document once more, word by word and without any thought of speed: all sets and all choices
 * are tried. ModelTest holds ButtonTin against it. Places: "tin", "edge", "heap N", "need N".
 */
final class PlainTin {
    static final int NONE = -1, UNKNOWN = -1000000001, OUTSIDE = -1000000002, NOT = -1000000003, FULL = -1000000004;

    /** All of section 2 that changes. */
    static final class Now {
        List<String> place = new ArrayList<>();
        List<Integer> thread = new ArrayList<>();
        List<Integer> order = new ArrayList<>();
        int sorted;

        Now copy() {
            Now copy = new Now();
            copy.place.addAll(place);
            copy.thread.addAll(thread);
            copy.order.addAll(order);
            copy.sorted = sorted;
            return copy;
        }
    }

    private StringBuilder text = new StringBuilder();
    private int faultAt = NONE;
    private boolean there;
    private int errs;
    private List<int[]> buttons = new ArrayList<>();
    private List<int[]> rules = new ArrayList<>();
    private List<int[]> causes = new ArrayList<>();
    private List<int[]> needs = new ArrayList<>();
    private Now now = new Now();
    private final Deque<Now> before = new ArrayDeque<>();
    private final List<int[]> book = new ArrayList<>();
    private long seed;
    private final Now[] images = new Now[2];
    private final long[] imageSeeds = new long[2];

    public PlainTin() {
    }

    public int feed(int letter) {
        if (letter < 0 || letter > 255) return OUTSIDE;
        if (text.length() == 240) return FULL;
        text.append((char) letter);
        return text.length();
    }

    /** A piece of the text: a figure run or one other letter that is no blank. */
    private record Piece(int at, String words) {
        boolean isNumber() {
            return Character.isDigit(words.charAt(0)) && words.charAt(0) < 128;
        }
    }

    private static List<Piece> pieces(String text) {
        List<Piece> pieces = new ArrayList<>();
        java.util.regex.Matcher m = java.util.regex.Pattern.compile("[0-9]+|[^ ]", java.util.regex.Pattern.DOTALL).matcher(text);
        while (m.find()) pieces.add(new Piece(m.start(), m.group()));
        pieces.add(new Piece(text.length(), "end"));
        return pieces;
    }

    private static int[] bounds(char word) {
        return switch (word) {
            case 't' -> new int[] {0, 100};
            case 'r' -> new int[] {0, 3, 0, 2, 0, 9, 0, 5};
            case 'n' -> new int[] {0, 99};
            default -> new int[] {0, 4, 1, 9, 0, 5, 0, 1};
        };
    }

    private static int most(char word) {
        return switch (word) { case 't' -> 1; case 'b' -> 12; case 'r' -> 6; default -> 5; };
    }

    /** Fault number and letter; nothing: none. What was told is put into rows by word. */
    private static int[] findFault(String text, java.util.Map<Character, List<int[]>> rows) {
        for (char word : "tbrun".toCharArray()) rows.put(word, new ArrayList<>());
        List<Piece> pieces = pieces(text);
        int k = 0;
        while (!pieces.get(k).words.equals("end")) {
            Piece piece = pieces.get(k++);
            char word = piece.words.charAt(0);
            if ("tbrun".indexOf(word) < 0) return new int[] {1, piece.at};
            if (piece.at != pieces.get(0).at && rows.get('t').isEmpty()) throw new IllegalStateException();
            if (rows.get('t').isEmpty() && word != 't') return new int[] {1, piece.at};
            if (rows.get(word).size() == most(word)) return new int[] {3, piece.at};
            int[] bounds = bounds(word);
            int[] row = new int[bounds.length / 2];
            for (int i = 0; i < row.length; i++) {
                Piece number = pieces.get(k++);
                if (!number.isNumber()) return new int[] {1, number.at};
                if (number.words.length() > 3) return new int[] {2, number.at};
                row[i] = Integer.parseInt(number.words);
                if (row[i] < bounds[2 * i] || row[i] > bounds[2 * i + 1]) return new int[] {2, number.at};
            }
            Piece close = pieces.get(k++);
            if (!close.words.equals(";")) return new int[] {1, close.at};
            rows.get(word).add(row);
        }
        return null;
    }

    public int tin() {
        java.util.Map<Character, List<int[]>> rows = new java.util.HashMap<>();
        String was = text.toString();
        text = new StringBuilder();
        int[] found = findFault(was, rows);
        if (found != null) {
            faultAt = found[1];
            return -10 - found[0];
        }
        faultAt = NONE;
        there = !was.isBlank() || !was.chars().allMatch(c -> c == ' ');
        errs = there ? rows.get('t').get(0)[0] : 0;
        buttons = rows.get('b');
        rules = rows.get('r');
        causes = rows.get('u');
        needs = rows.get('n');
        now = new Now();
        for (int[] b : buttons) {
            now.place.add("tin");
            now.thread.add(b[3]);
        }
        for (int r = 0; r < rules.size(); r++) now.order.add(r);
        before.clear();
        book.clear();
        images[0] = null;
        images[1] = null;
        return buttons.size();
    }

    public int fault() {
        return faultAt;
    }

    private int mark(int b, int m) {
        return m == 3 ? now.thread.get(b) : buttons.get(b)[m];
    }

    private int holds(int b) {
        int h = (mark(b, 0) + 1) * mark(b, 1);
        if (mark(b, 3) == 1) h -= 5;
        return h < 0 ? 0 : h;
    }

    private boolean passes(int b, int m, int o, int v) {
        int x = mark(b, m);
        return o == 0 && x == v || o == 1 && x >= v || o == 2 && x <= v;
    }

    private boolean passesTest(int b, int test) {
        return passes(b, test / 30, test % 30 / 10, test % 10);
    }

    private int firstRule(int b) {
        for (int r : now.order) if (passes(b, rules.get(r)[0], rules.get(r)[1], rules.get(r)[2])) return r;
        return NONE;
    }

    private int goes(int b) {
        return firstRule(b) == NONE ? NONE : rules.get(firstRule(b))[3];
    }

    private int setOf(java.util.function.IntPredicate p) {
        int set = 0;
        for (int b = 0; b < buttons.size(); b++) if (p.test(b)) set += 1 << b;
        return set;
    }

    private int heapOf(int b) {
        return now.place.get(b).startsWith("heap ") ? now.place.get(b).charAt(5) - '0' : NONE;
    }

    private int needOf(int b) {
        return now.place.get(b).startsWith("need ") ? now.place.get(b).charAt(5) - '0' : NONE;
    }

    private int inTin() {
        return setOf(b -> now.place.get(b).equals("tin"));
    }

    private int heldBy(int set) {
        int sum = 0;
        for (int b = 0; b < buttons.size(); b++) if ((set >> b) % 2 == 1) sum += holds(b);
        return sum;
    }

    public int told(int what) {
        switch (what) {
            case 0: return errs;
            case 1: return buttons.size();
            case 2: return rules.size();
            case 3: return causes.size();
            case 4: return needs.size();
            case 5: return text.length();
            case 6: return inTin();
            case 7: return setOf(b -> now.place.get(b).equals("edge"));
            case 8: return setOf(b -> needOf(b) != NONE);
            case 9: return now.sorted;
            case 10: return setOf(b -> goes(b) == NONE);
            case 11: return setOf(b -> heapOf(b) != NONE && goes(b) != heapOf(b));
            case 12: {
                int set = 0;
                for (int r = 0; r < rules.size(); r++) {
                    int rule = r;
                    if (setOf(b -> firstRule(b) == rule) == 0) set += 1 << r;
                }
                return set;
            }
            case 13: {
                int best = NONE;
                for (int h = 5; h >= 0; h--) {
                    if (heap(h) != 0 && (best == NONE || heldBy(heap(h)) >= heldBy(heap(best)))) best = h;
                }
                return best;
            }
            case 14: return book.size();
            case 15: return before.size();
            default: return OUTSIDE;
        }
    }

    private boolean noButton(int b) {
        return b < 0 || b >= buttons.size();
    }

    public int button(int b, int what) {
        if (noButton(b)) return UNKNOWN;
        if (what < 0 || what > 7) return OUTSIDE;
        if (what < 4) return mark(b, what);
        if (what == 4) return holds(b);
        if (what == 5) return heapOf(b);
        return what == 6 ? needOf(b) : goes(b);
    }

    public int rule(int r, int what) {
        if (r < 0 || r >= rules.size()) return UNKNOWN;
        if (what < 0 || what > 4) return OUTSIDE;
        return what < 4 ? rules.get(r)[what] : now.order.indexOf(r);
    }

    public int cause(int c, int m) {
        if (c < 0 || c >= causes.size()) return UNKNOWN;
        if (m < 0 || m > 3) return OUTSIDE;
        return causes.get(c)[m];
    }

    private int buttonOf(int n) {
        return now.place.indexOf("need " + n);
    }

    public int need(int n, int what) {
        if (n < 0 || n >= needs.size()) return UNKNOWN;
        if (what < 0 || what > 1) return OUTSIDE;
        return what == 0 ? needs.get(n)[0] : buttonOf(n);
    }

    public int heap(int h) {
        if (h < 0 || h > 5) return OUTSIDE;
        return setOf(b -> heapOf(b) == h);
    }

    private void remember() {
        before.addLast(now.copy());
        if (before.size() > 16) before.removeFirst();
    }

    public int put(int b, int h) {
        if (noButton(b)) return UNKNOWN;
        if (h < 0 || h > 5) return OUTSIDE;
        if (needOf(b) != NONE || heapOf(b) == h) return NOT;
        remember();
        now.place.set(b, "heap " + h);
        return heap(h);
    }

    public int takeBack(int b) {
        if (noButton(b)) return UNKNOWN;
        if (needOf(b) != NONE || now.place.get(b).equals("tin")) return NOT;
        remember();
        now.place.set(b, "tin");
        return inTin();
    }

    private void sortOne(int b) {
        now.place.set(b, goes(b) == NONE ? "edge" : "heap " + goes(b));
        if (now.sorted < 999999) now.sorted++;
    }

    public int sort() {
        if (inTin() == 0) return NOT;
        remember();
        int many = 0;
        for (int b = 0; b < buttons.size(); b++) {
            if (now.place.get(b).equals("tin")) {
                sortOne(b);
                many++;
            }
        }
        return many;
    }

    public int sew(int b, int n) {
        if (noButton(b) || n < 0 || n >= needs.size()) return UNKNOWN;
        if (needOf(b) != NONE || buttonOf(n) != NONE || holds(b) < needs.get(n)[0]) return NOT;
        remember();
        now.place.set(b, "need " + n);
        return holds(b);
    }

    public int unpick(int n) {
        if (n < 0 || n >= needs.size()) return UNKNOWN;
        int b = buttonOf(n);
        if (b == NONE) return NOT;
        remember();
        now.place.set(b, "tin");
        now.thread.set(b, 1);
        return b;
    }

    public int pull(int b) {
        if (noButton(b)) return UNKNOWN;
        if (needOf(b) != NONE || mark(b, 3) == 0) return NOT;
        remember();
        now.thread.set(b, 0);
        return holds(b);
    }

    public int up(int r) {
        if (r < 0 || r >= rules.size()) return UNKNOWN;
        int place = now.order.indexOf(r);
        if (place == 0) return NOT;
        remember();
        now.order.remove(place);
        now.order.add(place - 1, r);
        return now.order.indexOf(r);
    }

    private int draw(int n) {
        seed = java.math.BigInteger.valueOf(seed).multiply(java.math.BigInteger.valueOf(1103515245))
            .add(java.math.BigInteger.valueOf(12345)).mod(java.math.BigInteger.TWO.pow(31)).longValue();
        return (int) (seed / 65536 % n);
    }

    public int drift(int n) {
        if (n < 1 || n > 60) return OUTSIDE;
        if (!there) return NOT;
        remember();
        for (int i = 0; i < n && !buttons.isEmpty(); i++) {
            int b = draw(buttons.size());
            int chance = draw(100);
            String place = now.place.get(b);
            if (place.equals("tin")) {
                if (chance < errs) now.place.set(b, "heap " + draw(6));
                else sortOne(b);
            } else if ((place.equals("edge") || place.startsWith("heap")) && chance >= 90) {
                now.place.set(b, "tin");
            }
        }
        return now.sorted;
    }

    public int undo() {
        if (before.isEmpty()) return NOT;
        now = before.removeLast();
        return before.size();
    }

    private List<Integer> fitting(int h) {
        List<Integer> tests = new ArrayList<>();
        for (int test = 0; test < 120; test++) {
            boolean fits = true;
            for (int b = 0; b < buttons.size(); b++) {
                if (heapOf(b) == h && !passesTest(b, test)) fits = false;
                if (heapOf(b) != h && heapOf(b) != NONE && passesTest(b, test)) fits = false;
            }
            if (fits) tests.add(test);
        }
        return tests;
    }

    private static int among(List<Integer> list, int i) {
        if (i == NONE) return list.size();
        return i >= 0 && i < list.size() ? list.get(i) : NONE;
    }

    public int fit(int h, int i) {
        if (h < 0 || h > 5) return OUTSIDE;
        return heap(h) == 0 ? NOT : among(fitting(h), i);
    }

    public int tells(int h) {
        if (h < 0 || h > 5) return OUTSIDE;
        if (heap(h) == 0) return NOT;
        List<Integer> tests = fitting(h);
        int best = NONE;
        long least = 0;
        for (int b = 0; b < buttons.size(); b++) {
            if (!now.place.get(b).equals("tin")) continue;
            int button = b;
            long pass = tests.stream().filter(t -> passesTest(button, t)).count();
            if (pass == 0 || pass == tests.size()) continue;
            long greatest = Math.max(pass, tests.size() - pass);
            if (best == NONE || greatest < least) {
                best = b;
                least = greatest;
            }
        }
        return best;
    }

    private boolean alikeBy(int one, int other, int set) {
        for (int b = 0; b < buttons.size(); b++) {
            if ((set >> b & 1) == 1 && passesTest(b, one) != passesTest(b, other)) return false;
        }
        return true;
    }

    private boolean teaches(int test, int set) {
        for (int other = 0; other < 120; other++) {
            if (alikeBy(test, other, set) && !alikeBy(test, other, (1 << buttons.size()) - 1)) return false;
        }
        return true;
    }

    public int teach(int test) {
        if (test < 0 || test > 119) return OUTSIDE;
        for (int size = 0; size <= buttons.size(); size++) {
            for (int set = 0; set < 1 << buttons.size(); set++) {
                if (Integer.bitCount(set) == size && teaches(test, set)) return set;
            }
        }
        throw new IllegalStateException("all buttons teach");
    }

    private int[] bestMatch;

    private void tryMatches(int n, int[] chosen) {
        if (n == needs.size()) {
            if (bestMatch == null || isBetter(chosen, bestMatch)) bestMatch = chosen.clone();
            return;
        }
        chosen[n] = NONE;
        tryMatches(n + 1, chosen);
        if (buttonOf(n) != NONE) return;
        for (int b = 0; b < buttons.size(); b++) {
            boolean used = false;
            for (int k = 0; k < n; k++) used |= chosen[k] == b;
            if (used || !now.place.get(b).equals("tin") || holds(b) < needs.get(n)[0]) continue;
            chosen[n] = b;
            tryMatches(n + 1, chosen);
        }
        chosen[n] = NONE;
    }

    private int many(int[] chosen) {
        int many = 0;
        for (int b : chosen) many += b == NONE ? 0 : 1;
        return many;
    }

    private int much(int[] chosen) {
        int sum = 0;
        for (int b : chosen) sum += b == NONE ? 0 : holds(b);
        return sum;
    }

    private boolean isBetter(int[] one, int[] other) {
        if (many(one) != many(other)) return many(one) > many(other);
        if (much(one) != much(other)) return much(one) < much(other);
        for (int n = 0; n < one.length; n++) {
            int a = one[n] == NONE ? 99 : one[n];
            int b = other[n] == NONE ? 99 : other[n];
            if (a != b) return a < b;
        }
        return false;
    }

    public int match(int n) {
        if (n < -2 || n >= needs.size()) return UNKNOWN;
        bestMatch = null;
        tryMatches(0, new int[needs.size()]);
        if (n == NONE) return many(bestMatch);
        return n == -2 ? much(bestMatch) : bestMatch[n];
    }

    public int load(int w) {
        if (w < 1 || w > 999) return OUTSIDE;
        int tin = inTin();
        for (int size = 0; size <= 12; size++) {
            for (int set = 0; set < 1 << buttons.size(); set++) {
                if ((set | tin) == tin && Integer.bitCount(set) == size && heldBy(set) >= w) return set;
            }
        }
        return NONE;
    }

    public int slips(int b, int c) {
        if (noButton(b) || c < 0 || c >= causes.size()) return UNKNOWN;
        int slips = 0;
        for (int m = 0; m < 4; m++) slips += mark(b, m) == causes.get(c)[m] ? 0 : 1;
        return slips;
    }

    public int undid(int b, int what) {
        if (noButton(b)) return UNKNOWN;
        if (what < 0 || what > 2) return OUTSIDE;
        for (int slips = 0; slips <= 4; slips++) {
            int set = 0;
            for (int c = 0; c < causes.size(); c++) if (slips(b, c) == slips) set += 1 << c;
            if (set != 0) {
                if (what == 0) return set;
                if (what == 1) return slips;
                return Integer.bitCount(set) == 1 ? Integer.numberOfTrailingZeros(set) : NONE;
            }
        }
        return what == 0 ? 0 : NONE;
    }

    public int change(int b) {
        if (noButton(b)) return UNKNOWN;
        if (goes(b) != NONE) return NONE;
        for (int step = 1; step <= 9; step++) {
            for (int r : now.order) {
                for (int v = 0; v <= 9; v++) {
                    int[] rule = rules.get(r);
                    if (Math.abs(v - rule[2]) == step && passes(b, rule[0], rule[1], v)) return 10 * r + v;
                }
            }
        }
        return NONE;
    }

    public int alike(int i) {
        List<Integer> pairs = new ArrayList<>();
        for (int b = 0; b < buttons.size(); b++) {
            for (int other = b + 1; other < buttons.size(); other++) {
                boolean like = true;
                for (int m = 0; m < 4; m++) like &= mark(b, m) == mark(other, m);
                if (like) pairs.add(100 * b + other);
            }
        }
        return among(pairs, i);
    }

    public int child(int n) {
        if (n < 0 || n > 60) return OUTSIDE;
        long odds = 1000000000L;
        for (int i = 0; i < n; i++) odds = odds * (100 - errs) / 100;
        return (int) odds;
    }

    public int write(int b, int h) {
        if (noButton(b)) return UNKNOWN;
        if (h < -1 || h > 5) return OUTSIDE;
        if (book.size() == 15) return FULL;
        book.add(new int[] {b, h});
        return book.size();
    }

    public int tear() {
        int had = book.size();
        book.clear();
        return had;
    }

    public int judge() {
        for (int i = 0; i < book.size(); i++) if (heapOf(book.get(i)[0]) != book.get(i)[1]) return i;
        return NONE;
    }

    public int seed(int v) {
        if (v < 0) return OUTSIDE;
        int was = (int) seed;
        seed = v;
        return was;
    }

    public int keep(int i) {
        if (i < 0 || i > 1) return UNKNOWN;
        images[i] = now.copy();
        imageSeeds[i] = seed;
        before.clear();
        return 1;
    }

    public int goBack(int i) {
        if (i < 0 || i > 1) return UNKNOWN;
        if (images[i] == null) return NOT;
        now = images[i].copy();
        seed = imageSeeds[i];
        before.clear();
        return 1;
    }
}
