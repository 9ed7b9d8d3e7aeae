/** Promises 20 to 29: what is tried. */
public final class TriedTest {
    private static final int NONE = ButtonTin.NONE, UNKNOWN = ButtonTin.UNKNOWN, OUTSIDE = ButtonTin.OUTSIDE;
    private static final int NOT = ButtonTin.NOT;
    /** They hold 9, 10, 15, 4, 2, 10; they go to 0, nowhere, 0, 1, nowhere, nowhere. */
    private static final String SIX = "t20;b2 3 0 0;b4 3 1 1;b2 5 2 0;b0 9 5 1;b1 1 1 0;b4 3 1 1;"
        + "r0 0 2 0;r1 1 5 1;r2 2 0 3;u4 3 1 1;u2 3 2 0;u0 9 0 0;n9;n14;n99;";

    private static ButtonTin six() {
        return Check.told(SIX);
    }

    /** Of each mark one button alone passes 12 tests: 'is' 1, 'or more' its mark and 1, 'or less' 10 less its mark. */
    private static void fitsOfOneHeap() {
        ButtonTin x = Check.told("t0;b2 3 0 1;");
        Check.due("fit(0, NONE), empty", x.fit(0, NONE), NOT);
        Check.due("fit(6, NONE)", x.fit(6, NONE), OUTSIDE);
        Check.due("fit(-1, NONE)", x.fit(-1, NONE), OUTSIDE);
        x.put(0, 2);
        Check.due("fit(2, NONE)", x.fit(2, NONE), 48);
        int[] first = {2, 10, 11, 12, 22, 23, 24, 25, 26, 27, 28, 29, 33, 40};
        for (int i = 0; i < first.length; i++) {
            Check.due("fit(2, " + i + ")", x.fit(2, i), first[i]);
        }
        Check.due("fit(2, 47), 'thread is 9 or less'", x.fit(2, 47), 119);
        Check.due("fit(2, 48)", x.fit(2, 48), NONE);
        Check.due("fit(2, -2)", x.fit(2, -2), NONE);
        Check.due("fit(0, NONE)", x.fit(0, NONE), NOT);
    }

    private static void fitsOfSeveral() {
        ButtonTin x = Check.told("t0;b2 3 0 0;b2 5 0 0;b2 4 0 0;b2 9 0 0;b2 3 1 0;");
        x.put(0, 0);
        x.put(1, 1);
        Check.due("fit(0, NONE)", x.fit(0, NONE), 3);
        Check.due("size is 3", x.fit(0, 0), 33);
        Check.due("size is 3 or less", x.fit(0, 1), 53);
        Check.due("size is 4 or less", x.fit(0, 2), 54);
        Check.due("fit(0, 3)", x.fit(0, 3), NONE);
        Check.due("fit(1, NONE)", x.fit(1, NONE), 3);
        Check.due("size is 5", x.fit(1, 0), 35);
        Check.due("size is 4 or more", x.fit(1, 1), 44);
        Check.due("size is 5 or more", x.fit(1, 2), 45);
        Check.due("tells(0): 4 fails two of three, as none else does", x.tells(0), 2);
        Check.due("tells(1): 4 and 9 part alike", x.tells(1), 2);
        x.put(2, 2);
        Check.due("tells(1): 9 passes all that fit but one", x.tells(1), 3);
        x.put(3, 3);
        Check.due("tells(1): none parts what is left", x.tells(1), NONE);
        x.takeBack(2);
        x.put(2, 0);
        Check.due("two buttons in the heap: 3, 4 or less", x.fit(0, NONE), 1);
        Check.due("size is 4 or less", x.fit(0, 0), 54);
        x.put(4, 3);
        Check.due("nothing fits", x.fit(0, NONE), 0);
        Check.due("fit(0, 0)", x.fit(0, 0), NONE);
        Check.due("tells(0)", x.tells(0), NONE);
        Check.due("tells(4)", x.tells(4), NOT);
        Check.due("tells(6)", x.tells(6), OUTSIDE);
        Check.due("tells(-1)", x.tells(-1), OUTSIDE);
    }

    /** Holes 0 against 1: the first test, 'is 0', counts among those that are told apart. */
    private static void fitsWithTheFirstTest() {
        ButtonTin x = Check.told("t0;b0 3 0 0;b1 3 0 0;b0 9 0 0;b4 3 0 0;");
        x.put(0, 0);
        x.put(1, 1);
        Check.due("fit(0, NONE): is 0, 0 or less", x.fit(0, NONE), 2);
        Check.due("fit(0, 0)", x.fit(0, 0), 0);
        Check.due("fit(0, 1)", x.fit(0, 1), 20);
        Check.due("tells(0)", x.tells(0), NONE);
        Check.due("tells(1): is 1, 1 or more", x.tells(1), 3);
        ButtonTin y = Check.told("t0;b1 3 0 0;b0 3 0 0;b1 4 0 0;b1 9 0 0;");
        y.put(1, 0);
        y.put(2, 1);
        Check.due("fit(0, NONE): holes 0, size 3", y.fit(0, NONE), 4);
        Check.due("tells(0): the first passes two of four", y.tells(0), 0);
        ButtonTin z = Check.told("t0;b0 3 0 0;b1 5 0 0;b1 3 0 0;b0 4 0 0;");
        z.put(0, 0);
        z.put(1, 1);
        Check.due("fit(0, NONE)", z.fit(0, NONE), 5);
        Check.due("tells(0): both pass three of five", z.tells(0), 2);
    }

    /** The edge and the tin do not count, nor does what is sewn. */
    private static void fitsByHeapsAlone() {
        ButtonTin x = Check.told("t0;b2 3 0 0;b2 3 0 0;b2 3 0 0;r0 0 0 5;n9;");
        x.put(0, 0);
        x.sew(1, 0);
        int all = x.fit(0, NONE);
        Check.due("fit(0, NONE)", all, 48);
        Check.due("tells(0): one like it parts none", x.tells(0), NONE);
        x.sort();
        Check.due("edge", x.told(7), 4);
        Check.due("fit(0, NONE)", x.fit(0, NONE), 48);
        x.put(2, 1);
        Check.due("fit(0, NONE), one like it in another heap", x.fit(0, NONE), 0);
    }

    private static void taught() {
        ButtonTin x = six();
        Check.due("teach(2)", x.teach(2), 23);
        Check.due("teach(0)", x.teach(0), 30);
        Check.due("teach(9)", x.teach(9), 31);
        Check.due("teach(60)", x.teach(60), 7);
        Check.due("teach(119)", x.teach(119), 27);
        Check.due("teach(120)", x.teach(120), OUTSIDE);
        Check.due("teach(-1)", x.teach(-1), OUTSIDE);
        x.sort();
        x.put(0, 4);
        Check.due("where they are does not count", x.teach(2), 23);
        ButtonTin one = Check.told("t0;b2 3 0 0;");
        Check.due("one button parts those it passes from the others", one.teach(0), 1);
        ButtonTin two = Check.told("t0;b2 3 0 0;b2 3 0 0;");
        Check.due("of like buttons the least", two.teach(2), 1);
        ButtonTin three = Check.told("t0;b2 3 0 0;b2 3 0 0;b2 3 0 1;");
        Check.due("thread is 1: passed by the third", three.teach(91), 5);
        three.pull(2);
        Check.due("no thread any more", three.teach(91), 1);
    }

    private static void matched() {
        ButtonTin x = six();
        Check.due("match(NONE)", x.match(NONE), 2);
        Check.due("match(-2)", x.match(-2), 24);
        Check.due("match(0)", x.match(0), 0);
        Check.due("match(1)", x.match(1), 2);
        Check.due("match(2)", x.match(2), NONE);
        Check.due("match(3)", x.match(3), UNKNOWN);
        Check.due("match(-3)", x.match(-3), UNKNOWN);
        x.sew(2, 0);
        Check.due("one with a button", x.match(0), NONE);
        Check.due("the other is too strong", x.match(1), NONE);
        Check.due("match(NONE)", x.match(NONE), 0);
        Check.due("match(-2)", x.match(-2), 0);
        x.undo();
        x.put(0, 0);
        Check.due("of like ones the lesser button", x.match(0), 1);
        Check.due("match(-2)", x.match(-2), 25);

        // they hold 4, 3, 3, 2
        ButtonTin y = Check.told("t0;b0 4 0 0;b0 3 0 0;b0 3 1 0;b0 2 0 0;n3;n3;n5;n0;n2;");
        Check.due("the most", y.match(NONE), 4);
        Check.due("how much", y.match(-2), 12);
        Check.due("need by need the lesser", y.match(0), 0);
        Check.due("need by need the lesser", y.match(1), 1);
        Check.due("none strong enough", y.match(2), NONE);
        Check.due("need by need the lesser", y.match(3), 2);
        Check.due("what is left", y.match(4), 3);

        ButtonTin five = Check.told("t0;b0 5 0 0;b0 4 0 0;b0 3 0 0;b0 2 0 0;b0 1 0 0;n1;n2;n3;n4;n5;");
        Check.due("all five", five.match(NONE), 5);
        Check.due("how much", five.match(-2), 15);
        for (int n = 0; n < 5; n++) {
            Check.due("match(" + n + ")", five.match(n), 4 - n);
        }

        // one button for two needs alike: the first has it
        ButtonTin z = Check.told("t0;b0 4 0 0;n3;n3;");
        Check.due("none last", z.match(0), 0);
        Check.due("none last", z.match(1), NONE);
        // the first need goes without, as the second is met for less
        ButtonTin w = Check.told("t0;b0 2 0 0;b0 9 0 1;n3;n2;");
        Check.due("both", w.match(NONE), 2);
        w.put(1, 0);
        Check.due("the least together", w.match(0), NONE);
        Check.due("the least together", w.match(1), 0);
    }

    private static void loaded() {
        ButtonTin x = six();
        Check.due("load(0)", x.load(0), OUTSIDE);
        Check.due("load(1000)", x.load(1000), OUTSIDE);
        Check.due("load(1)", x.load(1), 1);
        Check.due("load(9)", x.load(9), 1);
        Check.due("load(10)", x.load(10), 2);
        Check.due("load(11)", x.load(11), 4);
        Check.due("load(15)", x.load(15), 4);
        Check.due("load(16): 9 and 10", x.load(16), 3);
        Check.due("load(20): 9 and 15", x.load(20), 5);
        Check.due("load(25): 10 and 15", x.load(25), 6);
        Check.due("load(26): 9, 10, 15", x.load(26), 7);
        Check.due("load(35): 10, 15, 10", x.load(35), 38);
        Check.due("load(50): all", x.load(50), 63);
        Check.due("load(51)", x.load(51), NONE);
        Check.due("load(999)", x.load(999), NONE);
        ButtonTin twelve = Check.told("t0;" + "b0 1 0 0;".repeat(11) + "b0 2 0 0;");
        Check.due("load(13): all twelve", twelve.load(13), 4095);
        Check.due("load(14)", twelve.load(14), NONE);
        Check.due("load(7): 2 and 5, not 1, 1 and 5", Check.told("t0;b0 1 0 0;b0 1 0 0;b0 2 0 0;b0 5 0 0;").load(7), 12);
        Check.due("load(2)", twelve.load(2), 2048);
        Check.due("load(3)", twelve.load(3), 2049);
        x.put(2, 0);
        Check.due("load(11) of the tin", x.load(11), 3);
        x.sort();
        Check.due("load(1) of an empty tin", x.load(1), NONE);
    }

    private static void slipped() {
        ButtonTin x = six();
        Check.due("slips(1, 0)", x.slips(1, 0), 0);
        Check.due("slips(0, 0)", x.slips(0, 0), 3);
        Check.due("slips(3, 0)", x.slips(3, 0), 3);
        Check.due("slips(3, 1)", x.slips(3, 1), 4);
        Check.due("slips(6, 0)", x.slips(6, 0), UNKNOWN);
        Check.due("slips(0, 3)", x.slips(0, 3), UNKNOWN);
        Check.due("slips(-1, 0)", x.slips(-1, 0), UNKNOWN);
        Check.due("slips(0, -1)", x.slips(0, -1), UNKNOWN);
        Check.due("undid(1, 0)", x.undid(1, 0), 1);
        Check.due("undid(1, 1)", x.undid(1, 1), 0);
        Check.due("undid(1, 2)", x.undid(1, 2), 0);
        Check.due("undid(4, 0)", x.undid(4, 0), 7);
        Check.due("undid(4, 1)", x.undid(4, 1), 3);
        Check.due("undid(4, 2)", x.undid(4, 2), NONE);
        Check.due("undid(6, 3)", x.undid(6, 3), UNKNOWN);
        Check.due("undid(-1, 0)", x.undid(-1, 0), UNKNOWN);
        Check.due("undid(0, 3)", x.undid(0, 3), OUTSIDE);
        Check.due("undid(0, -1)", x.undid(0, -1), OUTSIDE);
        x.pull(1);
        Check.due("slips(1, 0), pulled", x.slips(1, 0), 1);
        ButtonTin y = Check.told("t0;b0 1 0 0;");
        Check.due("undid(0, 0) without causes", y.undid(0, 0), 0);
        Check.due("undid(0, 1) without causes", y.undid(0, 1), NONE);
        Check.due("undid(0, 2) without causes", y.undid(0, 2), NONE);
    }

    private static void changed() {
        ButtonTin x = six();
        Check.due("change(0), it goes somewhere", x.change(0), NONE);
        Check.due("change(1)", x.change(1), 21);
        Check.due("change(4), of like ones the first rule", x.change(4), 1);
        Check.due("change(6)", x.change(6), UNKNOWN);
        Check.due("change(-1)", x.change(-1), UNKNOWN);
        x.up(2);
        x.up(2);
        Check.due("change(4), the order turned", x.change(4), 21);
        Check.due("no rules", Check.told("t0;b0 1 0 0;").change(0), NONE);
        Check.due("5 or more, of 3: V 3", Check.told("t0;b0 3 0 0;r1 1 5 0;").change(0), 3);
        Check.due("is 9, of 0", Check.told("t0;b0 3 0 0;r0 1 9 0;r2 0 9 0;").change(0), 0);
        Check.due("2 or less, of 4", Check.told("t0;b4 3 0 0;r0 0 9 0;r0 2 2 0;").change(0), 14);
    }

    private static void pairs() {
        ButtonTin x = six();
        Check.due("alike(NONE)", x.alike(NONE), 1);
        Check.due("alike(0)", x.alike(0), 105);
        Check.due("alike(1)", x.alike(1), NONE);
        Check.due("alike(-2)", x.alike(-2), NONE);
        Check.due("holes unlike", Check.told("t0;b0 1 0 0;b1 1 0 0;").alike(NONE), 0);
        Check.due("size unlike", Check.told("t0;b0 1 0 0;b0 2 0 0;").alike(NONE), 0);
        Check.due("kind unlike", Check.told("t0;b0 1 0 0;b0 1 1 0;").alike(NONE), 0);
        x.pull(5);
        Check.due("alike(NONE), pulled", x.alike(NONE), 0);
        x.pull(1);
        x.put(1, 1);
        Check.due("alike(NONE), both pulled", x.alike(NONE), 1);
        ButtonTin y = Check.told("t0;" + "b0 1 0 0;".repeat(12));
        Check.due("alike(NONE) of twelve", y.alike(NONE), 66);
        Check.due("alike(0)", y.alike(0), 1);
        Check.due("alike(10)", y.alike(10), 11);
        Check.due("alike(11)", y.alike(11), 102);
        Check.due("alike(65)", y.alike(65), 1011);
        Check.due("alike(66)", y.alike(66), NONE);
    }

    private static void children() {
        ButtonTin x = Check.told("t33;");
        Check.due("child(0)", x.child(0), 1000000000);
        Check.due("child(1)", x.child(1), 670000000);
        Check.due("child(6), cut each time", x.child(6), 90458381);
        Check.due("child(9), cut each time", x.child(9), 27206533);
        Check.due("child(60)", x.child(60), 0);
        Check.due("child(61)", x.child(61), OUTSIDE);
        Check.due("child(-1)", x.child(-1), OUTSIDE);
        Check.due("child(1), errs always", Check.told("t100;").child(1), 0);
        Check.due("child(0), errs always", Check.told("t100;").child(0), 1000000000);
        Check.due("child(60), errs never", Check.told("t0;").child(60), 1000000000);
    }

    public static void main(String[] args) {
        fitsOfOneHeap();
        fitsOfSeveral();
        fitsWithTheFirstTest();
        fitsByHeapsAlone();
        taught();
        matched();
        loaded();
        slipped();
        changed();
        pairs();
        children();
        Check.finish();
    }
}
