import java.util.List;

/** Promises 20 to 29 of section 3: each sentence that names a bound, at the bound and on both sides of it. */
public final class EdgesOfTryingTest {
    private static final int NONE = Run.NONE, OUTSIDE = Run.OUTSIDE, UNKNOWN = Run.UNKNOWN, NOT = Run.NOT;
    private static final String TWELVE = "b0 1 0 0;".repeat(12);
    private static final int ALL = 4095, BILLION = 1000000000;
    private static final List<String> NO_HEAP = List.of("MIN", "-1000000001", "-2", "-1", "6", "7", "8", "MAX");

    /** What is tried changes nothing, whatever it answers. */
    private static void nothingChanges() {
        Run x = new Run("TRIED from now; nothing changes by it", "t20;b2 3 0 0;b4 3 1 1;b2 5 2 0;b0 9 5 1;r0 0 2 0;r1 1 5 1;u4 3 1 1;u2 3 2 0;n9;n14;")
            .does("seed 8", "keep 0", "put 0 0", "put 1 1", "write 0 0", "write 1 0", "sew 2 1", "keep 1", "pull 1").tell("t1;n5;");
        Run before = x.again();
        x.does("fit 0 NONE", "fit 0 0", "fit 1 99", "tells 0", "tells 1", "teach 0", "teach 119", "match NONE", "match -2", "match 0", "match 1",
            "load 1", "load 40", "load 999", "slips 0 0", "undid 0 0", "undid 0 1", "undid 0 2", "change 1", "change 0", "alike NONE", "alike 0",
            "child 0", "child 60", "judge", "told 10", "told 11", "told 12", "told 13", "fault", "heap 0", "button 1 7", "rule 0 4", "cause 0 0", "need 1 1");
        x.same("TRIED; nothing changes by it", before);
    }

    private static void fitHeaps() {
        Run x = new Run("20: FIT for a HEAP (0 .. 5). OUTSIDE, NOT: no BUTTON is in it", "t1;b2 3 0 1;b2 3 0 1;");
        for (String h : NO_HEAP) {
            x.due("fit " + h + " NONE", OUTSIDE).due("fit " + h + " 0", OUTSIDE).due("fit " + h + " MIN", OUTSIDE);
            new Run("20: no TIN").due("fit " + h + " NONE", OUTSIDE);
        }
        for (int h = 0; h < 6; h++) {
            Run y = x.again().due("fit " + h + " NONE", NOT).due("fit " + h + " 0", NOT).due("fit " + h + " -2", NOT).does("put 0 " + h);
            y.due("fit " + h + " NONE", 48).due("fit " + h + " 0", 2).due("fit " + h + " 47", 119).due("fit " + h + " 48", NONE);
            for (String i : List.of("MIN", "-1000000001", "-2", "119", "120", "MAX")) {
                y.due("fit " + h + " " + i, NONE);
            }
            y.does("takeBack 0").due("fit " + h + " NONE", NOT);
        }
        new Run("20: NOT: the EDGE, SEWN is in no HEAP", "t1;b0 1 0 0;b0 1 0 0;n0;").does("sew 0 0", "sort").due("fit 0 NONE", NOT)
            .due("fit 5 NONE", NOT);
    }

    /** Marks at their least and at their most: the tests at both ends of the numbers. */
    private static void fitTests() {
        Run least = new Run("TESTS have numbers (0 .. 119): the least MARKS", "t1;b0 1 0 0;").does("put 0 0");
        least.due("fit 0 NONE", 48).due("fit 0 0", 0).due("fit 0 1", 10).due("fit 0 2", 20).due("fit 0 11", 29).due("fit 0 12", 31)
            .due("fit 0 47", 119).due("fit 0 48", NONE);
        Run most = new Run("TESTS have numbers (0 .. 119): the greatest MARKS", "t1;b4 9 5 1;").does("put 0 5");
        most.due("fit 5 NONE", 48).due("fit 5 0", 4).due("fit 5 12", 39).due("fit 5 22", 49).due("fit 5 23", 59).due("fit 5 24", 65)
            .due("fit 5 47", 119);
        Run none = new Run("FIT: none", "t1;b2 2 2 1;b2 2 2 1;").does("put 0 0", "put 1 5").due("fit 0 NONE", 0).due("fit 0 0", NONE)
            .due("fit 5 NONE", 0);
        none.does("pull 1").due("fit 0 NONE", 2).due("fit 0 0", 91).due("fit 0 1", 101).due("fit 0 2", NONE).due("fit 5 NONE", 2)
            .due("fit 5 0", 90).due("fit 5 1", 110);
        Run all = new Run("FIT: all BUTTONS in it pass: twelve", "t1;" + TWELVE + "r0 0 0 0;").does("sort").due("fit 0 NONE", 48);
        all.does("put 11 5").due("fit 0 NONE", 0).does("takeBack 11").due("fit 0 NONE", 48).does("sort", "takeBack 0", "put 0 1")
            .due("fit 0 NONE", 0);
        new Run("FIT: all in it, not only some", "t1;b0 1 0 0;b4 1 0 0;b2 1 0 0;").does("put 0 0", "put 1 0", "put 2 1")
            .due("fit 0 NONE", 0)
            .does("takeBack 1").due("fit 0 NONE", 3).due("fit 0 0", 0).due("fit 0 1", 20).due("fit 0 2", 21);
        new Run("FIT: none in other HEAPS (the EDGE, TIN do not count)", "t1;b0 1 0 0;b0 1 0 0;b0 1 0 0;b0 1 0 0;n1;")
            .does("put 0 0", "sew 1 0", "put 2 3")
            .due("fit 0 NONE", 0).does("takeBack 2").due("fit 0 NONE", 48).does("sort").due("told 7", 12).due("fit 0 NONE", 48)
            .does("put 3 5").due("fit 0 NONE", 0);
    }

    private static void tellsHeaps() {
        Run x = new Run("21: OUTSIDE, NOT: no BUTTON is in it", "t1;b0 1 0 0;b4 9 5 1;");
        for (String h : NO_HEAP) {
            x.due("tells " + h, OUTSIDE);
            new Run("21: no TIN").due("tells " + h, OUTSIDE);
        }
        for (int h = 0; h < 6; h++) {
            x.again().due("tells " + h, NOT).does("put 0 " + h).due("tells " + h, 1).does("put 1 " + h).due("tells " + h, NONE)
                .does("takeBack 0", "takeBack 1").due("tells " + h, NOT);
        }
    }

    private static void tells() {
        new Run("NONE: none parts them: none is in the TIN", "t1;b0 1 0 0;b4 9 5 1;n0;").does("put 0 0").due("tells 0", 1).does("sew 1 0")
            .due("tells 0", NONE);
        new Run("NONE: none parts them: it is at the EDGE", "t1;b0 1 0 0;b4 9 5 1;").does("put 0 0", "sort").due("tells 0", NONE);
        new Run("NONE: none parts them: they all pass", "t1;b0 1 0 0;b0 1 0 0;").does("put 0 0").due("tells 0", NONE);
        new Run("NONE: none parts them: one FITS alone", "t1;b0 1 0 0;b1 1 0 0;b4 1 0 0;b2 1 0 0;").does("put 1 0", "put 0 1", "put 3 1")
            .due("fit 0 NONE", 1).due("fit 0 0", 1).due("tells 0", NONE);
        new Run("NONE: none parts them: none FITS", "t1;b0 1 0 0;b0 1 0 0;b4 9 0 0;").does("put 0 0", "put 1 1").due("fit 0 NONE", 0)
            .due("tells 0", NONE);
        // sizes 3 against 7: 'is 3', 3 .. 6 'or less' fit: a button of 4 passes three of five, one of 5 two, one of 6 one, one of 2 four
        String part = "t1;b0 3 0 0;b0 7 0 0;";
        new Run("the greatest part that is alike is least", part + "b0 2 0 0;b0 6 0 0;b0 5 0 0;").does("put 0 0", "put 1 1")
            .due("fit 0 NONE", 5).due("tells 0", 4);
        new Run("of like ones the least", part + "b0 2 0 0;b0 5 0 0;b0 4 0 0;").does("put 0 0", "put 1 1").due("tells 0", 3)
            .does("put 3 2").due("fit 0 NONE", 3).due("tells 0", 2);
        new Run("of like ones the least: passed by four, by one", part + "b0 2 0 0;b0 6 0 0;").does("put 0 0", "put 1 1").due("tells 0", 2);
        new Run("of like ones the least: passed by one, by four", part + "b0 6 0 0;b0 2 0 0;").does("put 0 0", "put 1 1").due("tells 0", 2);
        new Run("TESTS (0 .. 119): none beyond them parts", "t1;b0 1 0 0;b0 1 0 0;b1 1 0 0;n0;").does("put 0 0", "sew 2 0")
            .due("fit 0 NONE", 48).due("tells 0", NONE);
        new Run("TELLS: asked again it answers alike", part + "b0 2 0 0;b0 4 0 0;").does("put 0 0", "put 1 1").due("tells 0", 3)
            .due("tells 0", 3).due("tells 1", 3).due("tells 0", 3);
        new Run("TELLS: asked again it answers alike: the first", "t1;b0 2 0 0;b0 4 0 0;b0 3 0 0;b0 7 0 0;").does("put 2 0", "put 3 1")
            .due("tells 0", 1)
            .does("put 1 2").due("tells 0", 0).due("tells 0", 0).due("tells 1", NONE).due("tells 0", 0).due("tells 0", 0);
        new Run("the last of twelve", "t1;b0 3 0 0;" + "b0 3 0 0;".repeat(10) + "b0 9 0 0;").does("put 0 0").due("tells 0", 11);
        new Run("the first of twelve", "t1;b0 9 0 0;" + "b0 3 0 0;".repeat(11)).does("put 11 0").due("tells 0", 0);
    }

    private static void teach() {
        for (Run x : List.of(new Run("22: (0 .. 119), no TIN"), new Run("22: (0 .. 119)", "t1;b0 1 0 0;"))) {
            for (String test : List.of("MIN", "-1000000001", "-1", "120", "121", "MAX")) {
                x.due("teach " + test, OUTSIDE);
            }
        }
        for (int test = 0; test < 120; test++) {
            new Run("22: no BUTTONS: none are needed", "t1;").due("teach " + test, 0);
            new Run("22: one BUTTON: some TESTS are passed, some are not", "t1;b0 1 0 0;").due("teach " + test, 1);
            new Run("22: of like ones the least", "t1;" + TWELVE).due("teach " + test, 1);
        }
        Run last = new Run("22: the one that is unlike is the last", "t1;" + "b0 1 0 0;".repeat(11) + "b0 1 0 1;");
        last.due("teach 91", 2049).due("teach 90", 2049).due("teach 119", 2049).due("teach 29", 2049);
        last.does("sort", "put 11 3").due("teach 91", 2049).does("pull 11").due("teach 91", 1).does("undo").due("teach 91", 2049);
        // sizes 1 to 9 and others: 'is 5' is told from 'is V' by 5 and from '4 or more' and its like by the others
        new Run("22: all are needed", "t1;b0 1 0 0;b1 1 0 0;b2 1 0 0;b3 1 0 0;b4 1 0 0;").due("teach 9", 31).due("teach 119", 31 - 14);
    }

    private static void matchKnown() {
        Run x = new Run("23: UNKNOWN", "t1;b0 5 0 0;n5;n6;");
        for (String n : List.of("MIN", "-1000000001", "-4", "-3", "2", "5", "12", "MAX")) {
            x.due("match " + n, UNKNOWN);
        }
        x.due("match -2", 5).due("match NONE", 1).due("match 0", 0).due("match 1", NONE);
        new Run("23: no NEED", "t1;b0 5 0 0;").due("match NONE", 0).due("match -2", 0).due("match 0", UNKNOWN).due("match -3", UNKNOWN);
        new Run("23: no BUTTON", "t1;n0;").due("match NONE", 0).due("match -2", 0).due("match 0", NONE).due("match 1", UNKNOWN);
        Run five = new Run("23: five NEEDS", "t1;" + "n0;".repeat(5) + "b0 1 0 0;".repeat(5)).due("match 5", UNKNOWN).due("match NONE", 5)
            .due("match -2", 5);
        for (int n = 0; n < 5; n++) {
            five.due("match " + n, n);
        }
    }

    private static void match() {
        for (int w = 0; w <= 10; w++) {
            new Run("MATCH: one that HOLDS W or more", "t1;b0 9 0 0;n" + w + ";").due("match NONE", w <= 9 ? 1 : 0)
                .due("match -2", w <= 9 ? 9 : 0).due("match 0", w <= 9 ? 0 : NONE);
        }
        new Run("MATCH: one that HOLDS nothing", "t1;b0 5 0 1;n1;n0;").due("match NONE", 1).due("match -2", 0).due("match 0", NONE)
            .due("match 1", 0);
        new Run("MATCH: one of the TIN, not of a HEAP, the EDGE", "t1;b0 5 0 0;b0 6 0 0;n5;").does("put 0 0").due("match 0", 1)
            .due("match -2", 6).does("sort").due("match 0", NONE).due("match NONE", 0);
        Run sewn = new Run("one with a BUTTON: NONE", "t1;b0 5 0 0;b0 6 0 0;n5;n6;").due("match 0", 0).due("match 1", 1)
            .due("match -2", 11);
        sewn.does("sew 1 0").due("match 0", NONE).due("match 1", NONE).due("match NONE", 0).due("match -2", 0).does("unpick 0")
            .due("match NONE", 1).due("match 0", 0).due("match 1", NONE);
        new Run("unlike ones", "t1;b0 9 0 0;n1;n1;n1;").due("match NONE", 1).due("match 0", 0).due("match 1", NONE).due("match 2", NONE);
        new Run("the most NEEDS, ahead of those who HOLD least", "t1;b0 1 0 0;b4 9 0 0;n1;n45;").due("match NONE", 2).due("match -2", 46);
        new Run("the most NEEDS: the great one for the great", "t1;b4 9 0 0;b0 1 0 0;n1;n45;").due("match 0", 1).due("match 1", 0);
        new Run("of like ones those who HOLD least together", "t1;b0 9 0 0;b0 8 0 0;b0 7 0 0;n7;").due("match 0", 2).due("match -2", 7);
        new Run("of like ones the first (NEED by NEED the lesser BUTTON)", "t1;b0 9 0 0;b0 7 0 0;b0 7 1 0;n7;n7;").due("match 0", 1)
            .due("match 1", 2).due("match -2", 14);
        new Run("the first: the greater for the first NEED", "t1;b0 9 0 0;b0 7 0 0;n7;n7;").due("match 0", 0).due("match 1", 1);
        new Run("none last", "t1;b0 9 0 0;n9;n9;n9;n9;n9;").due("match 0", 0).due("match 4", NONE).due("match -2", 9);
        new Run("none last: a NEED that goes without lets the others be met for less", "t1;b0 2 0 0;b0 9 0 0;n9;n2;n1;")
            .due("match NONE", 2).due("match -2", 11)
            .due("match 0", 1).due("match 1", 0).due("match 2", NONE);
        new Run("twelve: the last five", "t1;" + "b0 1 0 0;".repeat(7) + "b4 9 0 0;".repeat(5) + "n45;".repeat(5)).due("match NONE", 5)
            .due("match -2", 225).due("match 0", 7).due("match 4", 11);
        new Run("twelve: 46 is too much for each", "t1;" + "b4 9 0 0;".repeat(12) + "n46;n99;n45;").due("match NONE", 1)
            .due("match 0", NONE).due("match 1", NONE).due("match 2", 0);
    }

    private static void load() {
        for (Run x : List.of(new Run("24: LOAD (1 .. 999), no TIN"), new Run("24: LOAD (1 .. 999)", "t1;b0 1 0 0;").does("put 0 0"))) {
            for (String w : List.of("MIN", "-1000000001", "-1", "0", "1000", "1001", "MAX")) {
                x.due("load " + w, OUTSIDE);
            }
            x.due("load 1", NONE).due("load 999", NONE);
        }
        new Run("24: the greatest there is: 540", "t1;" + "b4 9 0 0;".repeat(12)).due("load 1", 1).due("load 45", 1).due("load 46", 3)
            .due("load 90", 3).due("load 91", 7)
            .due("load 495", 2047).due("load 496", ALL).due("load 540", ALL).due("load 541", NONE).due("load 999", NONE);
        new Run("24: of those that HOLD nothing none", "t1;b0 5 0 1;b0 1 0 1;").due("load 1", NONE).does("pull 1").due("load 1", 2)
            .due("load 2", NONE);
        new Run("24: in the TIN", "t1;b0 9 0 0;b0 8 0 0;b0 7 0 0;b0 1 0 0;n0;").does("sew 0 0", "put 1 0").due("load 7", 4)
            .due("load 8", 12).due("load 9", NONE)
            .does("sort").due("load 1", NONE).does("takeBack 3").due("load 1", 8);
        new Run("24: the fewest, then the least SET", "t1;b0 5 0 0;b0 5 0 0;b0 9 0 0;b0 6 0 0;b0 4 0 0;").due("load 5", 1)
            .due("load 6", 4).due("load 9", 4).due("load 10", 3)
            .due("load 11", 5).due("load 14", 5).due("load 15", 12).due("load 16", 7).due("load 19", 7).due("load 20", 13)
            .due("load 21", 15).due("load 25", 15).due("load 26", 31).due("load 29", 31).due("load 30", NONE);
        new Run("24: the last alone", "t1;" + "b0 1 0 0;".repeat(11) + "b4 9 0 0;").due("load 2", 2048).due("load 45", 2048)
            .due("load 46", 2049).due("load 56", ALL).due("load 57", NONE);
    }

    private static void slips() {
        Run x = new Run("25: SLIPS. UNKNOWN", "t1;b2 3 0 1;b0 1 0 0;u2 3 0 1;u2 3 0 0;u2 3 1 0;u2 4 1 0;u3 4 1 0;");
        for (String number : List.of("MIN", "-1000000001", "-1", "12", "MAX")) {
            x.due("slips " + number + " 0", UNKNOWN).due("slips 0 " + number, UNKNOWN);
        }
        x.due("slips 2 0", UNKNOWN).due("slips 0 5", UNKNOWN).due("slips 2 5", UNKNOWN);
        for (int c = 0; c < 5; c++) {
            x.due("slips 0 " + c, c);
        }
        x.due("slips 1 0", 3).due("slips 1 4", 3);
        new Run("25: UNKNOWN: no CAUSE", "t1;b0 1 0 0;").due("slips 0 0", UNKNOWN);
        new Run("25: UNKNOWN: no BUTTON", "t1;u0 1 0 0;").due("slips 0 0", UNKNOWN);
        new Run("25: MARKS now", "t1;b0 6 0 0;u0 6 0 1;n1;").due("slips 0 0", 1).does("sew 0 0").due("slips 0 0", 1).does("unpick 0")
            .due("slips 0 0", 0).does("pull 0").due("slips 0 0", 1);
    }

    private static void undid() {
        Run x = new Run("26: UNKNOWN, OUTSIDE", "t1;b2 3 0 1;b0 1 0 0;u2 3 0 1;u2 3 0 0;");
        for (String number : List.of("MIN", "-1000000001", "-1", "2", "12", "MAX")) {
            x.due("undid " + number + " 0", UNKNOWN).due("undid " + number + " 3", UNKNOWN).due("undid " + number + " -1", UNKNOWN);
        }
        for (String what : List.of("MIN", "-1000000001", "-1", "3", "4", "MAX")) {
            x.due("undid 0 " + what, OUTSIDE);
        }
        x.due("undid 0 0", 1).due("undid 0 1", 0).due("undid 0 2", 0).due("undid 1 0", 2).due("undid 1 1", 2).due("undid 1 2", 1);
        new Run("26: NONE: no CAUSES", "t1;b0 1 0 0;").due("undid 0 0", 0).due("undid 0 1", NONE).due("undid 0 2", NONE)
            .due("undid 0 3", OUTSIDE);
        new Run("26: SURE: if it is one alone; NONE", "t1;b0 1 0 0;u4 9 5 1;").due("undid 0 0", 1).due("undid 0 1", 4).due("undid 0 2", 0);
        new Run("26: SURE: two are not", "t1;b0 1 0 0;u4 9 5 1;u3 8 4 1;").due("undid 0 0", 3).due("undid 0 1", 4).due("undid 0 2", NONE);
        new Run("26: all five alike", "t1;b0 1 0 0;" + "u0 1 0 0;".repeat(5)).due("undid 0 0", 31).due("undid 0 1", 0)
            .due("undid 0 2", NONE);
        new Run("26: the last of five", "t1;b0 1 0 0;" + "u0 1 1 0;".repeat(4) + "u0 1 0 0;").due("undid 0 0", 16).due("undid 0 1", 0)
            .due("undid 0 2", 4);
        new Run("26: the first of five", "t1;b0 1 0 0;u0 1 1 0;" + "u0 2 1 0;".repeat(4)).due("undid 0 0", 1).due("undid 0 1", 1)
            .due("undid 0 2", 0);
    }

    private static void change() {
        Run x = new Run("27: UNKNOWN", "t1;b2 3 0 1;b0 1 0 0;r0 0 2 0;");
        for (String b : List.of("MIN", "-1000000001", "-1", "2", "12", "MAX")) {
            x.due("change " + b, UNKNOWN);
        }
        x.due("change 0", NONE).due("change 1", 0);
        new Run("27: NONE: there is none", "t1;b0 1 0 0;").due("change 0", NONE);
        new Run("27: the last RULE of six, V 9", "t1;b0 9 0 0;" + "r0 0 9 0;".repeat(5) + "r1 0 8 0;").due("change 0", 59);
        new Run("27: V 0 of RULE 0", "t1;b0 9 0 0;r0 1 1 0;r1 0 7 0;").due("change 0", 0);
        for (int size = 1; size <= 9; size++) {
            for (int v = 0; v <= 9; v++) {
                String told = "t1;b0 " + size + " 0 0;r1 ";
                new Run("27: is V: V becomes its MARK", told + "0 " + v + " 0;").due("change 0", v == size ? NONE : size);
                new Run("27: V or more: V becomes its MARK", told + "1 " + v + " 0;").due("change 0", v <= size ? NONE : size);
                new Run("27: V or less: V becomes its MARK", told + "2 " + v + " 0;").due("change 0", v >= size ? NONE : size);
            }
        }
        Run like = new Run("27: of like ones of the RULE that is first in the order", "t1;b0 5 0 0;r1 0 6 0;r1 0 4 0;r1 2 4 0;")
            .due("change 0", 5);
        like.does("up 1").due("change 0", 15).does("up 2").due("change 0", 15).does("up 2").due("change 0", 25);
        new Run("27: which differs least", "t1;b0 5 0 0;r1 0 7 0;r1 1 6 0;r1 2 3 0;").due("change 0", 15).does("up 1").due("change 0", 15);
        new Run("27: as it is now", "t1;b0 5 0 1;r3 0 0 0;").due("change 0", 1).does("pull 0").due("change 0", NONE);
        new Run("27: wherever it is", "t1;b0 5 0 0;r1 0 6 0;n0;").does("sort").due("change 0", 5).does("put 0 0").due("change 0", 5)
            .does("sew 0 0").due("change 0", 5);
    }

    private static void alike() {
        for (Run x : List.of(new Run("28: NONE, no TIN"), new Run("28: NONE, no pair", "t1;b0 1 0 0;b0 1 0 1;"), new Run("28: NONE, one BUTTON", "t1;b0 1 0 0;"))) {
            x.due("alike NONE", 0);
            for (String i : List.of("MIN", "-1000000001", "-2", "0", "1", "MAX")) {
                x.due("alike " + i, NONE);
            }
        }
        Run two = new Run("28: the i-th; NONE", "t1;b0 1 0 0;b0 1 0 0;").due("alike NONE", 1).due("alike 0", 1);
        for (String i : List.of("MIN", "-1000000001", "-2", "1", "2", "MAX")) {
            two.due("alike " + i, NONE);
        }
        Run all = new Run("28: pairs, rising: all of twelve", "t1;" + TWELVE).due("alike NONE", 66).due("alike 66", NONE);
        int i = 0;
        for (int b = 0; b < 12; b++) {
            for (int other = b + 1; other < 12; other++) {
                all.due("alike " + i, 100 * b + other);
                i++;
            }
        }
        new Run("28: with like MARKS, each of the four", "t1;b0 1 0 0;b1 1 0 0;b0 2 0 0;b0 1 1 0;b0 1 0 1;").due("alike NONE", 0)
            .does("pull 4").due("alike NONE", 1).due("alike 0", 4);
        new Run("28: wherever they are", "t1;b0 5 0 0;b0 5 0 0;n5;").does("put 0 0", "sew 1 0").due("alike NONE", 1).does("unpick 0")
            .due("alike NONE", 0);
    }

    private static void child() {
        for (Run x : List.of(new Run("29: n BUTTONS (0 .. 60), no TIN"), new Run("29: n BUTTONS (0 .. 60)", "t0;"))) {
            for (String n : List.of("MIN", "-1000000001", "-2", "-1", "61", "62", "MAX")) {
                x.due("child " + n, OUTSIDE);
            }
            x.due("child 0", BILLION).due("child 1", BILLION).due("child 60", BILLION);
        }
        new Run("29: E 100", "t100;").due("child 0", BILLION).due("child 1", 0).due("child 60", 0);
        new Run("29: E 99", "t99;").due("child 4", 10).due("child 5", 0).due("child 60", 0);
        new Run("29: E 90", "t90;").due("child 1", 100000000).due("child 9", 1).due("child 10", 0);
        for (int errs = 0; errs <= 100; errs++) {
            Run x = new Run("29: a BILLION times (100 less E) / 100 each (cut)", "t" + errs + ";");
            long odds = BILLION;
            for (int n = 0; n <= 60; n++) {
                x.due("child " + n, (int) odds);
                odds = odds * (100 - errs) / 100;
            }
        }
    }

    public static void main(String[] args) {
        nothingChanges();
        fitHeaps();
        fitTests();
        tellsHeaps();
        tells();
        teach();
        matchKnown();
        match();
        load();
        slips();
        undid();
        change();
        alike();
        child();
        Check.finish();
    }
}
