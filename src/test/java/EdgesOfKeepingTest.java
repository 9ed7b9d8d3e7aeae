import java.util.List;

/** Promises 30 to 35, THE BOOK, THE SEED and IMAGES: each sentence that names a bound, at the bound and on both sides of it. */
public final class EdgesOfKeepingTest {
    private static final int NONE = Run.NONE, OUTSIDE = Run.OUTSIDE, UNKNOWN = Run.UNKNOWN, NOT = Run.NOT, FULL = Run.FULL;
    private static final List<String> NO_BUTTON = List.of("MIN", "-1000000001", "-2", "-1", "2", "12", "MAX");
    private static final List<String> NO_HEAP = List.of("MIN", "-1000000001", "-3", "-2", "6", "7", "8", "MAX");
    private static final List<String> NO_IMAGE = List.of("MIN", "-1000000001", "-1", "2", "3", "MAX");

    private static Run two(String sentence) {
        return new Run(sentence, "t20;b0 6 0 1;b4 2 1 0;r2 0 0 5;r2 1 2 0;n1;");
    }

    private static void write() {
        Run x = two("30: (h NONE, 0 .. 5). UNKNOWN, OUTSIDE, FULL (15)");
        for (String b : NO_BUTTON) {
            x.due("write " + b + " 0", UNKNOWN).due("write " + b + " NONE", UNKNOWN).due("write " + b + " 6", UNKNOWN);
        }
        for (String h : NO_HEAP) {
            x.due("write 0 " + h, OUTSIDE).due("write 1 " + h, OUTSIDE);
        }
        x.due("told 14", 0);
        for (int h = NONE; h <= 5; h++) {
            x.due("write 0 " + h, h + 2);
        }
        for (int i = 8; i <= 15; i++) {
            x.due("write 1 NONE", i).due("told 14", i);
        }
        x.due("write 0 0", FULL).due("write 1 NONE", FULL).due("write 1 5", FULL);
        x.again().due("write 0 6", OUTSIDE).due("write 0 -2", OUTSIDE).due("write 2 0", UNKNOWN).due("write 2 6", UNKNOWN)
            .due("write -1 -2", UNKNOWN);
        x.due("tear", 15).due("write 0 0", 1);
        new Run("30: the last of twelve", "t1;" + "b0 1 0 0;".repeat(12)).due("write 11 5", 1).due("write 12 5", UNKNOWN);
        new Run("30: UNKNOWN: no BUTTON", "t1;").due("write 0 0", UNKNOWN).due("write 0 6", UNKNOWN);
        new Run("30: it can't be undone", "t1;b0 1 0 0;").does("put 0 0", "write 0 0").due("told 15", 1).due("undo", 0).due("told 14", 1);
    }

    private static void tear() {
        Run x = two("31: how much it had").due("tear", 0).due("tear", 0);
        for (int many = 1; many <= 15; many++) {
            Run y = x.again();
            for (int i = 0; i < many; i++) {
                y.does("write 0 3");
            }
            y.due("judge", 0).due("tear", many).due("told 14", 0).due("judge", NONE).due("tear", 0);
        }
        new Run("31: no TIN").due("tear", 0);
    }

    private static void judge() {
        new Run("32: of an empty BOOK NONE").due("judge", NONE);
        two("32: of an empty BOOK NONE").due("judge", NONE);
        for (int h = NONE; h <= 5; h++) {
            Run x = two("32: the first that is otherwise now").does("write 0 " + h).due("judge", h == NONE ? NONE : 0);
            for (int in = 0; in <= 5; in++) {
                x.does("put 0 " + in).due("judge", in == h ? NONE : 0);
            }
            x.does("takeBack 0").due("judge", h == NONE ? NONE : 0).does("sew 0 0").due("judge", h == NONE ? NONE : 0);
        }
        new Run("32: (NONE: in none): at the EDGE", "t1;b0 1 0 0;").does("write 0 NONE", "sort").due("judge", NONE).does("put 0 0")
            .due("judge", 0);
        for (int wrong = 0; wrong < 15; wrong++) {
            Run x = two("32: the first of fifteen").does("put 0 2");
            for (int i = 0; i < 15; i++) {
                x.does(i == wrong ? "write 0 4" : "write " + i % 2 + (i % 2 == 0 ? " 2" : " NONE"));
            }
            x.due("judge", wrong);
            if (wrong == 14) {
                x.does("put 1 0").due("judge", 1).does("put 0 4").due("judge", 0);
            }
        }
        two("32: the first of two that are").does("write 0 NONE", "write 1 3", "write 0 3").due("judge", 1).does("put 1 3")
            .due("judge", 2).does("put 0 3").due("judge", 0);
        two("32: as it is now: undone, from an IMAGE").does("write 0 3", "keep 0", "put 0 3").due("judge", NONE).does("undo")
            .due("judge", 0)
            .does("put 0 3").due("judge", NONE).does("goBack 0").due("judge", 0);
    }

    private static void seed() {
        for (Run x : List.of(new Run("33: v (0 .. 2147483647), no TIN"), two("33: v (0 .. 2147483647)"))) {
            x.due("seed MIN", OUTSIDE).due("seed -2147483647", OUTSIDE).due("seed -1000000001", OUTSIDE).due("seed -1", OUTSIDE);
            x.due("seed 0", 0).due("seed 1", 0).due("seed MAX", 1).due("seed -1", OUTSIDE).due("seed 2147483646", 2147483647)
                .due("seed 0", 2147483646);
        }
        two("33: it can't be undone").does("put 0 0", "seed 5").due("told 15", 1).due("undo", 0).due("seed 0", 5);
    }

    /** What one draw makes of the seed, by numbers that need no wrap. */
    private static int next(int seed) {
        return java.math.BigInteger.valueOf(seed).multiply(java.math.BigInteger.valueOf(1103515245)).add(java.math.BigInteger.valueOf(12345))
            .mod(java.math.BigInteger.valueOf(2147483648L)).intValueExact();
    }

    private static void seedWraps() {
        Check.due("the draw of 0", next(0), 12345);
        Check.due("the draw of 1", next(1), 1103527590);
        Check.due("the draw of 2: wrapped", next(2), 59559187);
        int[] seeds = {0, 1, 2, 3, 65535, 65536, 65537, 1103515245, 1073741823, 1073741824, 2147418112, 2147483646, 2147483647};
        for (int seed : seeds) {
            new Run("left over by 2 to the 31", "t0;b0 1 0 0;").does("seed " + seed, "drift 1").due("seed 0", next(next(seed)));
            Run errs = new Run("left over by 2 to the 31: a third DRAW", "t100;b0 1 0 0;").does("seed " + seed, "drift 1");
            errs.due("button 0 5", next(next(next(seed))) / 65536 % 6).due("seed 0", next(next(next(seed))));
            int b = next(seed) / 65536 % 7;
            new Run("the DRAW of n is it / 65536, left over by n", "t0;" + "b0 1 0 0;".repeat(7)).does("seed " + seed, "drift 1")
                .due("told 7", 1 << b);
        }
        Run x = new Run("each DRAW it becomes another: 120 of them", "t0;b0 1 0 0;n0;").does("sew 0 0", "seed 2147483647", "drift 60");
        int seed = 2147483647;
        for (int i = 0; i < 120; i++) {
            seed = next(seed);
        }
        x.due("seed 0", seed);
        new Run("THE SEED (0 at first)", "t0;b0 1 0 0;").does("drift 1").due("seed 7", next(next(0))).tell("t1;").does("tin")
            .due("seed 0", 7);
    }

    /** 1103515245 is odd, so some seed's next is each number: 0 and the greatest, too. */
    private static int ahead(int next) {
        java.math.BigInteger all = java.math.BigInteger.valueOf(2147483648L);
        return java.math.BigInteger.valueOf(next - 12345L).multiply(java.math.BigInteger.valueOf(1103515245).modInverse(all)).mod(all).intValueExact();
    }

    private static void seedsAtTheirBounds() {
        for (int seed : new int[] {0, 1, 65535, 65536, 2147483646, 2147483647}) {
            int before = ahead(seed);
            Check.due("the draw ahead of " + seed, next(before), seed);
            new Run("THE SEED becomes the least, the greatest: a DRAW of two", "t0;b0 1 0 0;b0 1 0 0;").does("seed " + before, "drift 1")
                .due("told 7", 1 << seed / 65536 % 2).due("seed 0", next(seed));
            Run hundred = new Run("THE SEED becomes the least, the greatest: a DRAW of 100", "t0;b0 1 0 0;")
                .does("sort", "seed " + ahead(before), "drift 1");
            hundred.due("told 6", seed / 65536 % 100 >= 90 ? 1 : 0).due("seed 0", seed);
        }
    }

    private static void images() {
        for (Run x : List.of(new Run("34, 35: IMAGES 0, 1; no TIN"), two("34, 35: IMAGES 0, 1"))) {
            for (String i : NO_IMAGE) {
                x.due("keep " + i, UNKNOWN).due("goBack " + i, UNKNOWN);
            }
            x.due("goBack 0", NOT).due("goBack 1", NOT).due("keep 0", 1).due("goBack 0", 1).due("goBack 1", NOT).due("keep 1", 1)
                .due("goBack 1", 1).due("goBack 0", 1);
            for (String i : NO_IMAGE) {
                x.due("keep " + i, UNKNOWN).due("goBack " + i, UNKNOWN);
            }
        }
        for (int i = 0; i < 2; i++) {
            Run other = two("35: NOT: it was not kept").does("put 0 0").due("goBack " + i, NOT).does("keep " + (1 - i), "put 0 1")
                .due("goBack " + i, NOT);
            other.due("told 15", 1).due("heap 1", 1).due("goBack " + (1 - i), 1).due("heap 0", 1).due("goBack " + i, NOT);
        }
        two("35: NOT: it is gone with tin()").does("keep 0", "keep 1").tell("t1;b0 1 0 0;").due("tin", 1).due("goBack 0", NOT)
            .due("goBack 1", NOT);
        two("35: a FAULT leaves it").does("keep 0", "put 0 0").tell("t1;x").due("tin", -11).due("goBack 0", 1).due("heap 0", 0);
        two("34: nothing can be undone then").does("put 0 0").due("keep 0", 1).due("told 15", 0).due("undo", NOT).due("heap 0", 1);
        two("35: nothing can be undone then").does("keep 0", "put 0 0").due("goBack 0", 1).due("told 15", 0).due("undo", NOT)
            .due("heap 0", 0);
    }

    private static void imagesKeepAll() {
        String[] much = {"put 0 3", "pull 0", "up 1", "sew 1 0", "unpick 0", "sort", "takeBack 1", "drift 20", "seed 99"};
        for (int from = 0; from < much.length; from++) {
            Run before = two("IMAGES keep all of section 2, THE SEED").does("write 0 3", "seed 7");
            for (int i = 0; i < from; i++) {
                before.does(much[i]);
            }
            before.does("keep 1", "keep 0");
            for (int i = from; i < much.length; i++) {
                Run x = before.again();
                x.does(isFree(x, much[i]) ? much[i] : "seed 3");
                x.does("goBack 0").same("35: What is so becomes IMAGE 0: behind " + much[i], before);
            }
        }
        Run x = two("34: an IMAGE is kept anew").does("put 0 1", "keep 0", "put 0 2").due("keep 0", 1).does("put 0 3").due("goBack 0", 1)
            .due("heap 2", 1).due("heap 1", 0);
        x.does("put 0 4").due("goBack 0", 1).due("heap 2", 1).does("put 0 5").due("goBack 0", 1).due("heap 2", 1);
        two("IMAGES keep no BOOK, no text").does("write 0 0", "keep 0", "write 1 0", "put 0 0").tell("t1").due("goBack 0", 1)
            .due("told 14", 2).due("told 5", 2).due("told 6", 3);
        two("35: THE SEED, too").does("seed 4", "keep 0", "seed 5", "keep 1", "seed 6").due("goBack 0", 1).due("seed 8", 4)
            .due("goBack 1", 1).due("seed 8", 5).due("goBack 1", 1).due("seed 0", 5);
    }

    private static boolean isFree(Run x, String call) {
        return x.answer(call) > UNKNOWN;
    }

    public static void main(String[] args) {
        write();
        tear();
        judge();
        seed();
        seedWraps();
        seedsAtTheirBounds();
        images();
        imagesKeepAll();
        Check.finish();
    }
}
