import java.util.List;

/** Section 2 and promises 11 to 19: each sentence that names a bound, at the bound and on both sides of it. */
public final class EdgesOfDoingTest {
    private static final int NONE = Run.NONE, OUTSIDE = Run.OUTSIDE, UNKNOWN = Run.UNKNOWN, NOT = Run.NOT;
    private static final String TWELVE = "b0 1 0 0;".repeat(12);
    private static final int ALL = 4095;
    /** Numbers of which there are none, whatever there is. */
    private static final List<String> NEVER = List.of("MIN", "-1000000001", "-2", "-1", "12", "256", "4096", "MAX");

    /** Three buttons, that hold 4, 10, 0; the first goes to 5, the others nowhere; two needs, of 4 and 5. */
    private static Run three(String sentence) {
        return new Run(sentence, "t20;b0 4 0 0;b4 2 1 0;b0 5 1 1;r2 0 0 5;r2 1 2 0;u0 4 0 0;n4;n5;");
    }

    /** Just after `does`, undo() brings all back, but that the seed stays as it is. */
    private static void undone(Run before, String... does) {
        Run x = before.again().does(does[0]);
        x.again().does("undo").same("undone: " + does[0], before);
        if (does.length > 1) {
            undone(x, List.of(does).subList(1, does.length).toArray(new String[0]));
        }
    }

    private static void put() {
        Run x = three("11: PUT into a HEAP (0 .. 5). UNKNOWN, OUTSIDE");
        for (String b : NEVER) {
            x.due("put " + b + " 0", UNKNOWN);
        }
        x.due("put 3 0", UNKNOWN).due("put 3 6", UNKNOWN).due("put -1 -1", UNKNOWN);
        for (String h : List.of("MIN", "-1000000001", "-1", "6", "7", "8", "12", "MAX")) {
            x.due("put 0 " + h, OUTSIDE).due("put 2 " + h, OUTSIDE);
        }
        for (int h = 0; h < 6; h++) {
            Run y = three("11: BUTTONS in it (a SET)").due("put 2 " + h, 4).due("put 0 " + h, 5).due("put 1 " + h, 7);
            y.due("put 1 " + h, NOT).due("put 1 6", OUTSIDE).due("put 3 " + h, UNKNOWN).due("told 6", 0).due("heap " + h, 7);
        }
        undone(three("11: undone"), "put 0 0", "put 0 5", "put 1 5", "put 2 3");
    }

    private static void putFrom() {
        Run x = three("PUT by hand, from the TIN, the EDGE or another HEAP").does("put 0 1").due("told 6", 6);
        x.does("sort").due("told 7", 6).due("put 1 1", 3).due("told 7", 4).due("put 0 2", 1).due("heap 1", 2).due("told 9", 2);
        Run sewn = three("11: NOT: it is SEWN").does("sew 0 0");
        for (int h = 0; h < 6; h++) {
            sewn.due("put 0 " + h, NOT);
        }
        sewn.due("put 0 6", OUTSIDE).due("put 0 -1", OUTSIDE).does("unpick 0").due("put 0 0", 1);
        Run last = new Run("11: the last of twelve", "t1;" + TWELVE).due("put 11 5", 2048).due("put 12 5", UNKNOWN).due("put 11 5", NOT);
        for (int b = 0; b < 11; b++) {
            last.does("put " + b + " 5");
        }
        last.due("heap 5", ALL).due("told 6", 0).due("put 0 0", 1).due("heap 5", ALL - 1);
    }

    private static void takeBack() {
        Run x = three("12: TAKEN. UNKNOWN");
        for (String b : NEVER) {
            x.due("takeBack " + b, UNKNOWN);
        }
        x.due("takeBack 3", UNKNOWN).due("takeBack 0", NOT).due("takeBack 2", NOT);
        for (int h = 0; h < 6; h++) {
            three("12: from a HEAP").does("put 0 " + h, "put 2 " + h).due("takeBack 0", 3).due("takeBack 0", NOT).due("takeBack 2", 7)
                .due("heap " + h, 0).due("told 6", 7);
        }
        three("12: from the EDGE").does("sort").due("takeBack 1", 2).due("takeBack 1", NOT).due("takeBack 2", 6).due("told 7", 0);
        three("12: NOT: it is SEWN").does("sew 0 0").due("takeBack 0", NOT).does("unpick 0").due("takeBack 0", NOT);
        new Run("12: the last of twelve", "t1;" + TWELVE + "r0 0 0 3;").does("sort").due("takeBack 11", 2048).due("takeBack 0", 2049)
            .due("takeBack 12", UNKNOWN);
        undone(three("12: undone").does("put 0 0", "sort"), "takeBack 0", "takeBack 2");
    }

    private static void sort() {
        Run x = three("13: SORTED, all: how many were").due("sort", 3).due("heap 5", 1).due("told 7", 6).due("told 6", 0);
        x.due("sort", NOT).does("takeBack 2").due("sort", 1).due("sort", NOT).due("told 9", 4);
        new Run("13: NOT: none is in the TIN: no BUTTONS", "t1;r0 0 0 0;").due("sort", NOT);
        new Run("13: NOT: none is in the TIN: no TIN").due("sort", NOT);
        new Run("13: NOT: none is in the TIN: it is SEWN", "t1;b0 1 0 0;n0;").does("sew 0 0").due("sort", NOT).does("unpick 0")
            .due("sort", 1);
        new Run("13: NOT: none is in the TIN: in a HEAP", "t1;b0 1 0 0;").does("put 0 0").due("sort", NOT).does("takeBack 0")
            .due("sort", 1).due("told 7", 1);
        new Run("13: twelve", "t1;" + TWELVE + "r0 0 0 5;").due("sort", 12).due("heap 5", ALL);
        new Run("13: twelve, nowhere: to the EDGE", "t1;" + TWELVE).due("sort", 12).due("told 7", ALL);
        three("SORTED: all in the TIN, no other").does("put 0 1", "sew 1 0").due("sort", 1).due("heap 1", 1).due("told 8", 2)
            .due("told 7", 4).due("told 9", 1);
        undone(three("13: undone").does("put 1 1"), "sort");
    }

    private static void sewKnown() {
        Run x = three("14: UNKNOWN");
        for (String number : NEVER) {
            x.due("sew " + number + " 0", UNKNOWN).due("sew 0 " + number, UNKNOWN);
        }
        x.due("sew 3 0", UNKNOWN).due("sew 0 2", UNKNOWN).due("sew 3 2", UNKNOWN).due("sew 2 2", UNKNOWN).due("sew 3 1", UNKNOWN);
        new Run("14: UNKNOWN: no NEED", "t1;b4 9 0 0;").due("sew 0 0", UNKNOWN);
        new Run("14: UNKNOWN: no BUTTON", "t1;n0;").due("sew 0 0", UNKNOWN);
        new Run("14: the last of twelve, of five", "t1;" + TWELVE + "n0;".repeat(5)).due("sew 11 4", 1).due("sew 0 5", UNKNOWN)
            .due("sew 12 0", UNKNOWN)
            .due("button 11 6", 4).due("need 4 1", 11).due("told 8", 2048);
    }

    private static void sew() {
        for (int w = 0; w <= 46; w++) {
            new Run("SEWN: one that HOLDS W or more", "t1;b4 9 0 0;n" + w + ";").due("sew 0 0", w <= 45 ? 45 : NOT)
                .due("told 8", w <= 45 ? 1 : 0);
            new Run("SEWN: one that HOLDS W or more, by its THREAD", "t1;b4 9 0 1;n" + w + ";").due("sew 0 0", w <= 40 ? 40 : NOT);
        }
        new Run("SEWN: one that HOLDS W or more: 99", "t1;b4 9 0 0;n99;").due("sew 0 0", NOT);
        new Run("SEWN: one that HOLDS nothing", "t1;b0 1 0 1;n1;n0;").due("sew 0 0", NOT).due("sew 0 1", 0).due("told 8", 1);
        Run x = three("14: NOT: it is SEWN, the NEED has one, it HOLDS less than W");
        x.due("sew 0 1", NOT).due("sew 0 0", 4).due("sew 0 0", NOT).due("sew 0 1", NOT).due("sew 1 0", NOT).due("sew 2 0", NOT)
            .due("sew 2 1", NOT)
            .due("sew 1 1", 10).due("told 8", 3).due("sew 1 0", NOT);
        x.again().due("sew 0 2", UNKNOWN).due("sew 3 0", UNKNOWN).due("sew 0 -1", UNKNOWN).due("sew -1 1", UNKNOWN);
        x.does("unpick 0").due("sew 1 0", NOT).due("sew 0 0", NOT).does("pull 0").due("sew 0 0", 4);
        three("SEWN from a HEAP").does("put 0 3").due("sew 0 0", 4).due("heap 3", 0).due("button 0 5", NONE);
        three("SEWN from the EDGE").does("sort").due("sew 1 0", 10).due("told 7", 4);
        undone(three("14: undone").does("put 0 3"), "sew 0 0", "sew 1 1");
    }

    private static void unpick() {
        Run x = three("15: UNKNOWN, NOT: it has none");
        for (String n : NEVER) {
            x.due("unpick " + n, UNKNOWN);
        }
        x.due("unpick 2", UNKNOWN).due("unpick 0", NOT).due("unpick 1", NOT);
        x.does("sew 0 0").due("unpick 1", NOT).due("unpick 0", 0).due("unpick 0", NOT);
        x.due("button 0 3", 1).due("button 0 4", 0).due("told 6", 7).due("told 8", 0).due("button 0 6", NONE);
        new Run("UNPICKED: it is in the TIN then, from wherever it came", "t1;b0 9 0 0;b0 9 0 1;n4;n4;")
            .does("put 0 3", "sew 0 0", "sort", "sew 1 1")
            .due("unpick 0", 0).due("told 6", 1).due("unpick 1", 1).due("told 6", 3).due("button 1 3", 1).due("button 1 4", 4)
            .due("button 0 4", 4);
        new Run("15: the last of twelve, of five", "t1;" + TWELVE + "n0;".repeat(5)).does("sew 11 4").due("unpick 5", UNKNOWN)
            .due("unpick 4", 11);
        new Run("15: UNKNOWN: no NEED", "t1;b0 1 0 0;").due("unpick 0", UNKNOWN);
        undone(three("15: undone").does("sew 0 0", "sew 1 1"), "unpick 1", "unpick 0");
    }

    private static void pull() {
        Run x = three("16: UNKNOWN, NOT: no THREAD hangs in it");
        for (String b : NEVER) {
            x.due("pull " + b, UNKNOWN);
        }
        x.due("pull 3", UNKNOWN).due("pull 0", NOT).due("pull 2", 5).due("pull 2", NOT).due("button 2 3", 0).due("button 2 4", 5);
        new Run("16: NOT: it is SEWN", "t1;b0 6 0 1;n1;").does("sew 0 0").due("pull 0", NOT).does("unpick 0").due("pull 0", 6);
        new Run("16: NOT: it is SEWN, without THREAD", "t1;b0 6 0 0;n1;").does("sew 0 0").due("pull 0", NOT).does("unpick 0")
            .due("pull 0", 6);
        new Run("PULLED in a HEAP", "t1;b0 6 0 1;").does("put 0 5").due("pull 0", 6).due("heap 5", 1);
        new Run("PULLED at the EDGE", "t1;b0 6 0 1;").does("sort").due("pull 0", 6).due("told 7", 1);
        new Run("16: the last of twelve", "t1;" + "b0 1 0 1;".repeat(12)).due("pull 11", 1).due("pull 11", NOT).due("pull 12", UNKNOWN)
            .due("button 10 3", 1).due("pull 0", 1).due("button 1 3", 1);
        undone(three("16: undone"), "pull 2", "sew 0 0", "unpick 0", "pull 0");
    }

    private static void up() {
        Run x = three("17: A RULE is MOVED one up. UNKNOWN, NOT: it is the first");
        for (String r : NEVER) {
            x.due("up " + r, UNKNOWN);
        }
        x.due("up 2", UNKNOWN).due("up 0", NOT).due("up 1", 0).due("up 1", NOT).due("rule 0 4", 1).due("up 0", 0).due("up 0", NOT);
        new Run("17: NOT: of one RULE", "t1;r0 0 0 0;").due("up 0", NOT).due("up 1", UNKNOWN);
        new Run("17: UNKNOWN: no RULE", "t1;b0 1 0 0;").due("up 0", UNKNOWN);
        Run six = new Run("17: its place then; the one ahead of it comes behind it", "t1;" + "r0 0 0 0;".repeat(6)).due("up 6", UNKNOWN)
            .due("up 0", NOT);
        for (int place = 4; place >= 0; place--) {
            six.due("up 5", place).due("rule 5 4", place).due("rule " + place + " 4", place + 1);
        }
        six.due("up 5", NOT).due("up 0", 0).due("up 0", NOT).due("up 5", 0).due("rule 4 4", 5);
        undone(three("17: undone"), "up 1", "up 0", "up 1");
    }

    private static void driftBounds() {
        Run x = three("18: n times (1 .. 60). OUTSIDE, NOT: no TIN");
        for (String n : List.of("MIN", "-1000000001", "-1", "0", "61", "100", "65536", "MAX")) {
            x.due("drift " + n, OUTSIDE);
            new Run("18: OUTSIDE is ahead of NOT").due("drift " + n, OUTSIDE);
        }
        new Run("18: NOT: no TIN").due("drift 1", NOT).due("drift 60", NOT).tell("  ").does("tin").due("drift 1", NOT);
        new Run("18: NOT: no TIN any more", "t1;b0 1 0 0;").does("drift 1", "tin").due("drift 1", NOT);
        new Run("18: NOT: with a fault there is still none").tell("x").due("tin", -11).due("drift 1", NOT);
        for (int n : new int[] {1, 60}) {
            new Run("n times, if there are BUTTONS", "t50;r0 0 0 0;n0;").does("seed 9").due("drift " + n, 0).due("told 15", 1)
                .due("seed 0", 9);
        }
        Run sixty = three("18: 60 are sixty, one by one").does("seed 3");
        Run ones = sixty.again();
        for (int i = 0; i < 60; i++) {
            ones.does("drift 1");
        }
        int sorted = ones.answer("told 9");
        sixty.due("drift 60", sorted).does("keep 0");
        ones.does("keep 0").same("18: sixty times one", sixty);
    }

    /** Of the draws of 100: this seed's second draw is `chance`; there is one button, so the first draw tells nothing. */
    private static int seedWith(int chance) {
        for (long seed = 0; seed < 100000; seed++) {
            long first = next(seed);
            if (next(first) / 65536 % 100 == chance) {
                return (int) seed;
            }
        }
        throw new IllegalStateException();
    }

    private static long next(long seed) {
        return (seed * 1103515245L + 12345L) % 2147483648L;
    }

    private static void driftOfOne() {
        for (int errs : new int[] {0, 1, 50, 99, 100}) {
            for (int chance : new int[] {0, 1, 49, 50, 51, 98, 99}) {
                Run x = new Run("in the TIN: below E it is PUT into a HEAP, else it is SORTED alone", "t" + errs + ";b0 1 0 0;")
                    .does("seed " + seedWith(chance));
                x.due("drift 1", chance < errs ? 0 : 1).due("told 7", chance < errs ? 0 : 1).due("told 6", 0)
                    .due("told 9", chance < errs ? 0 : 1);
                long after = next(next(seedWith(chance)));
                x.due("button 0 5", chance < errs ? (int) (next(after) / 65536 % 6) : NONE)
                    .due("seed 0", (int) (chance < errs ? next(after) : after));
            }
        }
        for (int chance : new int[] {0, 50, 88, 89, 90, 91, 98, 99}) {
            String set = "seed " + seedWith(chance);
            int after = (int) next(next(seedWith(chance)));
            new Run("in a HEAP, and that is 90 or more, it is TAKEN", "t50;b0 1 0 0;").does("put 0 5", set).due("drift 1", 0)
                .due("told 6", chance >= 90 ? 1 : 0).due("heap 5", chance >= 90 ? 0 : 1).due("seed 0", after);
            new Run("in HEAP 0, and that is 90 or more, it is TAKEN", "t0;b0 1 0 0;").does("put 0 0", set).due("drift 1", 0)
                .due("told 6", chance >= 90 ? 1 : 0).due("seed 0", after);
            new Run("at the EDGE, and that is 90 or more, it is TAKEN", "t100;b0 1 0 0;").does("sort", set).due("drift 1", 1)
                .due("told 6", chance >= 90 ? 1 : 0).due("told 7", chance >= 90 ? 0 : 1).due("seed 0", after);
            new Run("SEWN it stays", "t100;b0 1 0 0;n0;").does("sew 0 0", set).due("drift 1", 0).due("told 8", 1).due("seed 0", after);
        }
    }

    private static void driftOfSeveral() {
        for (int many = 1; many <= 12; many++) {
            for (int seed = 1; seed < 400; seed += 57) {
                int b = (int) (next(seed) / 65536 % many);
                new Run("a DRAW of BUTTONS", "t0;" + "b0 1 0 0;".repeat(many)).does("seed " + seed).due("drift 1", 1).due("told 7", 1 << b);
            }
        }
        new Run("how many were SORTED (in all)", "t0;b0 1 0 0;").due("sort", 1).does("takeBack 0").due("drift 1", 2).due("told 9", 2);
        undone(new Run("18: undone", "t30;b0 1 0 0;b1 1 0 0;r0 0 1 4;n0;")
            .does("drift 3", "seed 0", "sort", "seed 5"), "put 0 3", "put 0 1");
        Run x = three("18: undone: all of section 2; THE SEED stays").does("put 0 1", "seed 4");
        Run drifted = x.again().does("drift 30");
        int after = drifted.answer("seed 0");
        drifted.does("undo").same("undone but for the seed", x.again().does("seed " + after));
    }

    private static void undoKept() {
        Run x = three("19: NOT: none").due("undo", NOT).does("put 0 0").due("undo", 0).due("undo", NOT);
        x.does("put 0 0", "keep 0").due("undo", NOT).does("put 0 1", "goBack 0").due("undo", NOT);
        x.does("put 0 1").tell("t1;b0 1 0 0;").due("told 15", 1).does("tin").due("undo", NOT);
        x.does("put 0 1").tell("x").due("tin", -11).due("undo", 0);
        for (int many = 14; many <= 18; many++) {
            Run y = new Run("16 at most are kept, the oldest are lost", "t1;b0 1 0 0;b0 1 0 0;").does("put 0 5");
            for (int i = 1; i < many; i++) {
                y.does("put 1 " + i % 6);
            }
            int kept = Math.min(many, 16);
            y.due("told 15", kept);
            for (int left = kept - 1; left >= 0; left--) {
                y.due("undo", left).due("told 15", left);
            }
            y.due("undo", NOT).due("heap 5", many <= 16 ? 0 : 1).due("told 6", many <= 16 ? 3 : many == 17 ? 2 : 0);
        }
    }

    /** The ring of what is kept turns: undone and done again, many times. */
    private static void undoAgainAndAgain() {
        Run x = new Run("UNDONE: the latest", "t1;b0 1 0 0;b0 2 0 0;");
        for (int round = 0; round < 5; round++) {
            for (int i = 0; i < 20; i++) {
                x.does("put 0 " + (i + round) % 6);
            }
            for (int i = 0; i < 9; i++) {
                x.due("undo", 15 - i);
            }
            x.due("heap " + (10 + round) % 6, 1).does("put 1 " + round, "takeBack 1").due("told 15", 9)
                .due("undo", 8).due("heap " + round, 2).due("undo", 7).due("heap " + round, 0);
        }
        three("UNDONE: no call that was refused").does("put 0 0").due("put 0 0", NOT).due("put 9 0", UNKNOWN).due("put 0 9", OUTSIDE)
            .due("takeBack 1", NOT)
            .due("sew 0 1", NOT).due("unpick 0", NOT).due("pull 0", NOT).due("up 0", NOT).due("drift 61", OUTSIDE).due("told 15", 1)
            .due("undo", 0).due("told 6", 7);
        three("UNDONE: no other call").does("put 0 0", "seed 4", "write 0 0", "tear").tell("t1").due("fit 0 NONE", 48).due("told 15", 1)
            .due("undo", 0).due("told 6", 7).due("seed 0", 4).due("told 5", 2);
        three("UNDONE: undo() itself is not").does("put 0 0", "put 0 1").due("undo", 1).due("undo", 0).due("undo", NOT);
    }

    public static void main(String[] args) {
        put();
        putFrom();
        takeBack();
        sort();
        sewKnown();
        sew();
        unpick();
        pull();
        up();
        driftBounds();
        driftOfOne();
        driftOfSeveral();
        undoKept();
        undoAgainAndAgain();
        Check.finish();
    }
}
