import java.util.List;

/** Promises 5 to 10, HOLDS and GOES: each sentence that names a bound, at the bound and on both sides of it. */
public final class EdgesOfLooksTest {
    private static final int NONE = Run.NONE, OUTSIDE = Run.OUTSIDE, UNKNOWN = Run.UNKNOWN, NOT = Run.NOT;
    private static final String TWELVE = "b4 9 0 0;".repeat(12);
    private static final int ALL = 4095;

    private static final List<String> OUT_OF_BOUNDS = List.of("MIN", "-1000000001", "-2", "MAX");

    /** There are so many of them: the first and the last there are, those beside them there are not. */
    private static void known(Run x, String call, int many, String further) {
        for (String number : OUT_OF_BOUNDS) {
            x.due(call + " " + number + further, UNKNOWN);
        }
        x.due(call + " NONE" + further, UNKNOWN).due(call + " " + many + further, UNKNOWN);
        if (many > 0) {
            x.does(call + " 0" + further, call + " " + (many - 1) + further);
        }
    }

    /** What = 0 .. last: both ends are answered, those beside them are not. */
    private static void parts(Run x, String call, int last) {
        for (String number : OUT_OF_BOUNDS) {
            x.due(call + " " + number, OUTSIDE);
        }
        x.due(call + " NONE", OUTSIDE).does(call + " 0", call + " " + last).due(call + " " + (last + 1), OUTSIDE);
    }

    private static void toldBounds() {
        parts(new Run("5: what, no TIN"), "told", 15);
        parts(new Run("5: what", "t1;b0 1 0 0;").does("put 0 0"), "told", 15);
    }

    /** Each number of told() when there is nothing of it, and when there is all of it. */
    private static void toldEmptyAndFull() {
        new Run("5: 0 E", "t0;").due("told 0", 0);
        new Run("5: 0 E", "t100;").due("told 0", 100);
        Run tin = new Run("5: 6 in the TIN (a SET)", "t1;" + TWELVE + "r0 0 4 5;n0;n0;n0;n0;n0;");
        tin.due("told 6", ALL).due("told 7", 0).due("told 8", 0).due("told 9", 0).due("told 10", 0).due("told 11", 0)
            .due("told 12", 0).due("told 13", NONE).due("told 14", 0).due("told 15", 0);
        tin.again().does("sort").due("told 6", 0).due("heap 5", ALL).due("told 9", 12).due("told 11", 0).due("told 13", 5);
        Run edge = new Run("5: 7 at the EDGE (a SET)", "t1;" + TWELVE + "r0 0 0 0;").due("told 10", ALL).due("told 12", 1);
        edge.does("sort").due("told 6", 0).due("told 7", ALL).due("told 11", 0).due("told 13", NONE).does("takeBack 11").due("told 7", 2047)
            .does("takeBack 0").due("told 7", 2046).due("told 6", 2049);
        Run sewn = tin.again();
        for (int n = 0; n < 5; n++) {
            sewn.due("told 8", (1 << n) - 1 << 7).does("sew " + (n + 7) + " " + n);
        }
        sewn.due("told 8", 31 << 7).due("told 6", 127).does("unpick 4").due("told 8", 15 << 7).due("told 6", 127 + 2048);
    }

    private static void sortedCount() {
        Run x = new Run("How many were SORTED (one by one) is counted", "t1;" + TWELVE + "r0 0 0 0;").due("told 9", 0);
        x.does("put 0 0", "put 1 1").due("told 9", 0).due("sort", 10).due("told 9", 10).does("takeBack 5").due("told 9", 10)
            .due("sort", 1).due("told 9", 11).due("sort", NOT).due("told 9", 11).does("undo").due("told 9", 10);
    }

    /** No object comes so far in the 512 calls that are promised; the bound is the program's all the same. */
    private static void sortedCountFull() {
        ButtonTin x = Check.told("t0;" + "b0 1 0 0;".repeat(12));
        int sorted = 0;
        while (sorted < 999996) {
            Check.due("sort()", x.sort(), 12);
            sorted += 12;
            for (int b = 0; b < 12; b++) {
                x.takeBack(b);
            }
        }
        Check.due("999999 at most: below it", x.told(9), 999996);
        for (int b = 2; b < 12; b++) {
            x.put(b, 0);
        }
        Check.due("sort() of two", x.sort(), 2);
        Check.due("999999 at most: one below it", x.told(9), 999998);
        x.takeBack(0);
        Check.due("sort() of one", x.sort(), 1);
        Check.due("999999 at most: at it", x.told(9), 999999);
        x.takeBack(0);
        x.takeBack(1);
        Check.due("sort() of two", x.sort(), 2);
        Check.due("999999 at most: beyond it", x.told(9), 999999);
        x.takeBack(0);
        Check.due("drift() at it", x.drift(60), 999999);
        x.undo();
        Check.due("999999 at most: undone", x.told(9), 999999);
    }

    private static void outAndWrongAndIdle() {
        Run x = new Run("OUT: BUTTONS that GO nowhere", "t1;b0 1 0 0;b1 1 0 0;" + "b2 1 0 0;".repeat(9) + "b3 1 0 0;r0 0 1 2;r0 0 2 4;");
        x.due("told 10", 1 + 2048).does("sort").due("told 10", 1 + 2048).due("told 11", 0);
        x.does("put 0 0", "put 11 4", "put 1 4").due("told 11", 1 + 2 + 2048).does("takeBack 0").due("told 11", 2 + 2048)
            .does("put 1 2").due("told 11", 2048).does("takeBack 11").due("told 11", 0);
        new Run("WRONG HEAP: SEWN, at the EDGE, in the TIN is in none", "t1;b0 1 0 0;b1 1 0 0;b2 1 0 0;r0 0 2 0;n0;")
            .does("sew 2 0", "put 0 1", "sort").due("told 11", 1).does("takeBack 0", "sort").due("told 7", 3).due("told 11", 0);
        String six = "r0 0 0 0;r0 0 1 1;r0 0 2 2;r0 0 3 3;r0 0 4 4;";
        new Run("IDLE (a SET of RULES): all", "t1;" + six + "r0 1 5 5;").due("told 12", 63);
        new Run("IDLE: the first and the last", "t1;b1 1 0 0;b2 1 0 0;b3 1 0 0;b4 1 0 0;" + six + "r0 1 5 5;").due("told 12", 33);
        new Run("IDLE: none", "t1;b0 1 0 0;b1 1 0 0;b2 1 0 0;b3 1 0 0;b4 1 0 0;" + six).due("told 12", 0);
        new Run("IDLE: of no RULES none", "t1;b0 1 0 0;").due("told 12", 0);
        new Run("IDLE: passed, but never first", "t1;b0 1 0 0;r0 1 0 1;r0 0 0 2;").due("told 12", 2).does("up 1").due("told 12", 1);
    }

    private static void heaviest() {
        Run x = new Run("HEAVIEST: NONE: none has any", "t1;b0 4 0 1;b0 5 0 1;b0 6 0 1;b0 1 0 0;n0;").due("told 13", NONE);
        x.again().does("sew 3 0", "sort").due("told 13", NONE);
        x.again().does("put 0 5").due("told 13", 5).does("put 1 3").due("told 13", 3).does("put 2 4").due("told 13", 4)
            .does("put 3 5").due("told 13", 4).does("pull 2").due("told 13", 4).does("pull 0").due("told 13", 4).does("put 1 5")
            .does("pull 1").due("told 13", 5);
        Run like = new Run("HEAVIEST: of like ones the least", "t1;b0 3 0 0;b0 2 0 0;b0 1 0 0;").does("put 0 5", "put 1 1", "put 2 1")
            .due("told 13", 1);
        like.does("put 2 2").due("told 13", 5).does("put 1 2").due("told 13", 2).does("put 0 0").due("told 13", 0);
        new Run("HEAVIEST: all twelve", "t1;" + TWELVE + "r0 0 4 0;").does("sort").due("told 13", 0).does("put 11 5").due("told 13", 0);
    }

    private static void bookAndUndone() {
        Run x = new Run("5: 14 entries of THE BOOK, 15 how many can be undone", "t1;b0 1 0 0;");
        for (int i = 0; i <= 15; i++) {
            x.due("told 14", i);
            if (i < 15) {
                x.does("write 0 0");
            }
        }
        for (int i = 0; i <= 18; i++) {
            x.due("told 15", Math.min(i, 16)).does("put 0 " + i % 6);
        }
        x.due("told 14", 15);
    }

    private static void buttons() {
        Run x = new Run("6: a BUTTON that there is not", "t1;b1 2 3 1;b4 9 5 0;b0 1 0 1;r0 0 1 4;");
        for (int what = 0; what < 8; what++) {
            known(x.again(), "button", 3, " " + what);
        }
        for (int b = 0; b < 3; b++) {
            parts(x.again(), "button " + b, 7);
        }
        x.due("button 3 8", UNKNOWN).due("button -1 -1", UNKNOWN).due("button MIN MAX", UNKNOWN);
        known(new Run("6: twelve BUTTONS", "t1;" + TWELVE), "button", 12, " 4");
        known(new Run("6: no BUTTON", "t1;"), "button", 0, " 0");
    }

    private static void places() {
        Run x = new Run("6: 5 its HEAP (NONE: in none), 6 the NEED (NONE), 7 the HEAP to which it GOES (NONE)",
            "t1;b0 1 0 0;b1 1 0 0;r0 0 1 0;n0;n0;n0;n0;n0;");
        for (int b = 0; b < 2; b++) {
            x.due("button " + b + " 5", NONE).due("button " + b + " 6", NONE).due("button " + b + " 7", b == 0 ? NONE : 0);
        }
        for (int h = 0; h < 6; h++) {
            x.again().does("put 0 " + h).due("button 0 5", h).due("button 0 6", NONE).due("button 1 5", NONE).due("button 0 7", NONE);
        }
        for (int n = 0; n < 5; n++) {
            x.again().does("sew 0 " + n).due("button 0 6", n).due("button 0 5", NONE).due("button 1 6", NONE);
        }
        x.does("sort").due("button 0 5", NONE).due("button 0 6", NONE).due("button 1 5", 0);
    }

    private static void held() {
        for (int holes = 0; holes <= 4; holes++) {
            for (int size = 1; size <= 9; size++) {
                int firm = (holes + 1) * size;
                Run x = new Run("It HOLDS its HOLES, and 1, times its SIZE, 5 less, if THREAD hangs in it (0 at least)",
                    "t1;b" + holes + " " + size + " 5 1;");
                x.due("button 0 4", firm < 5 ? 0 : firm - 5).due("pull 0", firm).due("button 0 4", firm);
            }
        }
    }

    /** Each way of a test, one below V, at V, one above; V at its own bounds. */
    private static void testsPassed() {
        for (int m = 0; m < 4; m++) {
            for (int mark = m == 1 ? 1 : 0; mark <= new int[] {4, 9, 5, 1}[m]; mark++) {
                String marks = (m == 0 ? mark : 2) + " " + (m == 1 ? mark : 2) + " " + (m == 2 ? mark : 2) + " " + (m == 3 ? mark : 0);
                for (int v = 0; v <= 9; v++) {
                    String told = "t1;b" + marks + ";r" + m + " ";
                    new Run("MARK M is, O 0, V", told + "0 " + v + " 5;").due("button 0 7", mark == v ? 5 : NONE);
                    new Run("O 1, V or more", told + "1 " + v + " 5;").due("button 0 7", mark >= v ? 5 : NONE);
                    new Run("O 2, V or less", told + "2 " + v + " 5;").due("button 0 7", mark <= v ? 5 : NONE);
                }
            }
        }
    }

    private static void goes() {
        Run x = new Run("the first RULE whose TEST its MARKS pass; else nowhere", "t1;b2 5 0 0;b0 1 1 1;r2 0 9 0;r1 1 6 1;r0 1 2 2;r0 0 2 3;r1 2 5 4;r3 0 1 5;");
        x.due("button 0 7", 2).due("button 1 7", 4).does("up 3").due("button 0 7", 3).does("pull 1").due("button 1 7", 4);
        x.does("up 4", "up 4", "up 4", "up 4").due("button 0 7", 4);
        new Run("its MARKS now", "t1;b0 6 0 1;r3 0 0 3;n1;").due("button 0 7", NONE).does("pull 0").due("button 0 7", 3)
            .does("sew 0 0").due("button 0 7", 3).does("unpick 0").due("button 0 7", NONE);
        new Run("no RULES: nowhere", "t1;b0 1 0 0;").due("button 0 7", NONE).due("told 10", 1);
        new Run("the last of six RULES alone", "t1;b0 1 0 0;" + "r0 0 1 0;".repeat(5) + "r0 0 0 5;").due("button 0 7", 5)
            .due("told 12", 31);
        new Run("all six RULES: the first", "t1;b0 1 0 0;r0 0 0 5;" + "r0 0 0 0;".repeat(5)).due("button 0 7", 5).due("told 12", 62);
    }

    private static void rules() {
        Run x = new Run("7: a RULE that there is not", "t1;r3 2 9 5;r0 0 0 0;");
        for (int what = 0; what < 5; what++) {
            known(x.again(), "rule", 2, " " + what);
        }
        parts(x, "rule 0", 4);
        x.due("rule 2 5", UNKNOWN).due("rule -1 -1", UNKNOWN).due("rule 0 4", 0).due("rule 1 4", 1);
        known(new Run("7: no RULE", "t1;b0 1 0 0;"), "rule", 0, " 0");
        Run six = new Run("7: six RULES; its place in the order (0 first)", "t1;" + "r1 1 1 1;".repeat(6));
        known(six, "rule", 6, " 4");
        for (int r = 0; r < 6; r++) {
            six.due("rule " + r + " 4", r);
        }
        six.does("up 5", "up 5", "up 5", "up 5", "up 5").due("rule 5 4", 0).due("rule 0 4", 1).due("rule 4 4", 5);
        new Run("7: as told", "t1;r3 2 9 5;r0 0 0 0;").does("up 1").due("rule 1 0", 0).due("rule 1 3", 0).due("rule 0 0", 3)
            .due("rule 0 1", 2).due("rule 0 2", 9).due("rule 0 3", 5).due("rule 0 4", 1).due("rule 1 4", 0);
    }

    private static void causes() {
        Run x = new Run("8: a CAUSE that there is not", "t1;u4 9 5 1;u0 1 0 0;");
        for (int m = 0; m < 4; m++) {
            known(x.again(), "cause", 2, " " + m);
            x.due("cause 0 " + m, new int[] {4, 9, 5, 1}[m]).due("cause 1 " + m, new int[] {0, 1, 0, 0}[m]);
        }
        parts(x, "cause 1", 3);
        x.due("cause 2 4", UNKNOWN).due("cause -1 -1", UNKNOWN);
        known(new Run("8: no CAUSE", "t1;b0 1 0 0;"), "cause", 0, " 0");
        known(new Run("8: five CAUSES", "t1;" + "u0 1 0 0;".repeat(5)), "cause", 5, " 0");
    }

    private static void needs() {
        Run x = new Run("9: a NEED that there is not", "t1;n99;n0;b0 1 0 0;");
        known(x.again(), "need", 2, " 0");
        known(x.again(), "need", 2, " 1");
        parts(x, "need 0", 1);
        x.due("need 2 2", UNKNOWN).due("need -1 -1", UNKNOWN).due("need 0 0", 99).due("need 1 0", 0);
        known(new Run("9: no NEED", "t1;b0 1 0 0;"), "need", 0, " 0");
        known(new Run("9: five NEEDS", "t1;" + "n5;".repeat(5)), "need", 5, " 1");
        x.due("need 1 1", NONE).does("sew 0 1").due("need 1 1", 0).due("need 0 1", NONE).does("unpick 1").due("need 1 1", NONE);
        new Run("9: the last BUTTON to the last NEED", "t1;" + TWELVE + "n0;".repeat(5)).does("sew 11 4").due("need 4 1", 11)
            .due("need 0 1", NONE);
    }

    private static void heaps() {
        for (Run x : List.of(new Run("10: (0 .. 5), no TIN"), new Run("10: (0 .. 5)", "t1;b0 1 0 0;"))) {
            parts(x, "heap", 5);
        }
        for (int h = 0; h < 6; h++) {
            Run x = new Run("10: BUTTONS in a HEAP: a SET", "t1;" + TWELVE + "r0 0 4 " + h + ";n0;").due("heap " + h, 0);
            x.does("put 11 " + h).due("heap " + h, 2048).does("put 0 " + h).due("heap " + h, 2049);
            for (int other = 0; other < 6; other++) {
                if (other != h) {
                    x.due("heap " + other, 0);
                }
            }
            x.does("sort").due("heap " + h, ALL).does("sew 0 0").due("heap " + h, ALL - 1).does("takeBack 11").due("heap " + h, 2046);
        }
    }

    public static void main(String[] args) {
        toldBounds();
        toldEmptyAndFull();
        sortedCount();
        sortedCountFull();
        outAndWrongAndIdle();
        heaviest();
        bookAndUndone();
        buttons();
        places();
        held();
        testsPassed();
        goes();
        rules();
        causes();
        needs();
        heaps();
        Check.finish();
    }
}
