/** Promises 1 to 5 and the text's faults. */
public final class TextTest {
    private static void fault(String text, int number, int letter) {
        ButtonTin x = new ButtonTin();
        Check.feedAll(x, text);
        Check.due("tin() of '" + text + "'", x.tin(), -10 - number);
        Check.due("fault() of '" + text + "'", x.fault(), letter);
        Check.due("told(5) behind '" + text + "'", x.told(5), 0);
    }

    private static void fine(String text, int buttons) {
        ButtonTin x = new ButtonTin();
        Check.feedAll(x, text);
        Check.due("tin() of '" + text + "'", x.tin(), buttons);
        Check.due("fault() of '" + text + "'", x.fault(), ButtonTin.NONE);
    }

    private static void newObject() {
        ButtonTin x = new ButtonTin();
        for (int what = 0; what < 16; what++) {
            Check.due("told(" + what + ") of a new object", x.told(what), what == 13 ? ButtonTin.NONE : 0);
        }
        Check.due("fault() of a new object", x.fault(), ButtonTin.NONE);
        Check.due("drift(1) of a new object", x.drift(1), ButtonTin.NOT);
        Check.due("drift(0) of a new object", x.drift(0), ButtonTin.OUTSIDE);
        Check.due("button(0, 9) of a new object", x.button(0, 9), ButtonTin.UNKNOWN);
        Check.due("goBack(0) of a new object", x.goBack(0), ButtonTin.NOT);
        Check.due("seed(7) of a new object", x.seed(7), 0);
        Check.due("teach(119) of a new object", x.teach(119), 0);
        Check.due("keep(1) of a new object", x.keep(1), 1);
        Check.due("goBack(1) of a new object", x.goBack(1), 1);
    }

    private static void feeding() {
        ButtonTin x = new ButtonTin();
        Check.due("feed(-1)", x.feed(-1), ButtonTin.OUTSIDE);
        Check.due("feed(256)", x.feed(256), ButtonTin.OUTSIDE);
        Check.due("told(5)", x.told(5), 0);
        Check.due("feed(0)", x.feed(0), 1);
        Check.due("feed(255)", x.feed(255), 2);
        for (int i = 3; i <= 240; i++) {
            Check.due("feed(32)", x.feed(32), i);
        }
        Check.due("feed(32), the 241st", x.feed(32), ButtonTin.FULL);
        Check.due("feed(256), full", x.feed(256), ButtonTin.OUTSIDE);
        Check.due("told(5), full", x.told(5), 240);
        Check.due("tin()", x.tin(), -11);
        Check.due("fault()", x.fault(), 0);
        Check.due("feed(116)", x.feed(116), 1);
    }

    private static void faults() {
        fault("b0 1 0 0;", 1, 0);
        fault("  x", 1, 2);
        fault("T0;", 1, 0);
        fault(";", 1, 0);
        fault("0", 1, 0);
        fault("1000", 1, 0);
        fault("t", 1, 1);
        fault("t  ", 1, 3);
        fault("t5", 1, 2);
        fault("t5  ", 1, 4);
        fault("t;", 1, 1);
        fault("t5 5;", 1, 3);
        fault("t5 1000;", 1, 3);
        fault("t5;;", 1, 3);
        fault("t5;x", 1, 3);
        fault("t5;\t", 1, 3);
        fault("t5;b1 2 3;", 1, 9);
        fault("t5;b1 2 3 0 0;", 1, 12);
        fault("t5;b t", 1, 5);
        fault("t-5;", 1, 1);
        fault("t/;", 1, 1);
        fault("t0:", 1, 2);
        fault("t5" + " ".repeat(238), 1, 240);
        fault("t5;" + " ".repeat(235) + "n5", 1, 240);
        fault("t0000;", 2, 1);
        fault("t1000", 2, 1);
        fault("t 12345678901234567890", 2, 2);
        fault("t101", 2, 1);
        fault("t999x", 2, 1);
        fault("t0;b1200;", 2, 4);
        fault("t0;b5 1 0 0;", 2, 4);
        fault("t0;b0 0 0 0;", 2, 6);
        fault("t0;b0 10 0 0;", 2, 6);
        fault("t0;b0 1 6 0;", 2, 8);
        fault("t0;b0 1 0 2;", 2, 10);
        fault("t0;r4 0 0 0;", 2, 4);
        fault("t0;r0 3 0 0;", 2, 6);
        fault("t0;r0 0 10 0;", 2, 8);
        fault("t0;r0 0 0 6;", 2, 10);
        fault("t0;u5 1 0 0;", 2, 4);
        fault("t0;u0 0 0 0;", 2, 6);
        fault("t0;u0 10 0 0;", 2, 6);
        fault("t0;u0 1 6 0;", 2, 8);
        fault("t0;u0 1 0 2;", 2, 10);
        fault("t0;n100;", 2, 4);
        fault("t1;t1;", 3, 3);
        fault("t1;n1;t", 3, 6);
        fault("t1;" + "b0 1 0 0;".repeat(12) + " b", 3, 112);
        fault("t1;" + "r0 0 0 0;".repeat(6) + "r", 3, 57);
        fault("t1;" + "u0 1 0 0;".repeat(5) + "u", 3, 48);
        fault("t1;" + "n0;".repeat(5) + "n", 3, 18);
    }

    private static void fineTexts() {
        fine("", 0);
        fine("   ", 0);
        fine("t0;", 0);
        fine("  t  100  ;  ", 0);
        fine("t007;n099;n1;r3 2 9 5;u4 9 5 1;b4 9 5 1;b 00 001 0 0 ;r0 0 0 0;", 2);
        fine("t1;" + "b0 1 0 0;".repeat(12), 12);
        fine("t1;" + "r0 0 0 0;".repeat(6) + "u0 1 0 0;".repeat(5) + "n0;".repeat(5), 0);
        ButtonTin x = Check.told("t100;n7;r1 2 3 4;u4 3 2 1;b3 9 5 0;n99;");
        Check.due("E", x.told(0), 100);
        Check.due("buttons", x.told(1), 1);
        Check.due("rules", x.told(2), 1);
        Check.due("causes", x.told(3), 1);
        Check.due("needs", x.told(4), 2);
        for (int i = 0; i < 4; i++) {
            Check.due("button(0, " + i + ")", x.button(0, i), new int[] {3, 9, 5, 0}[i]);
            Check.due("rule(0, " + i + ")", x.rule(0, i), i + 1);
            Check.due("cause(0, " + i + ")", x.cause(0, i), 4 - i);
        }
        Check.due("need(0, 0)", x.need(0, 0), 7);
        Check.due("need(1, 0)", x.need(1, 0), 99);
    }

    /** As many of each as there may be, no two of a kind alike, in all 240 letters. */
    private static void fullText() {
        StringBuilder text = new StringBuilder("t9;");
        for (int i = 0; i < 12; i++) {
            text.append('b').append(i % 5).append(' ').append(i % 9 + 1).append(' ').append(i % 6).append(' ').append(i % 2).append(';');
        }
        for (int i = 0; i < 6; i++) {
            text.append('r').append(i % 4).append(' ').append(i % 3).append(' ').append(9 - i).append(' ').append(5 - i).append(';');
        }
        for (int i = 0; i < 5; i++) {
            text.append('u').append(4 - i).append(' ').append(9 - i).append(' ').append(5 - i).append(' ').append(1 - i % 2).append(';');
        }
        text.append("n1;n22;n3;n44;n5;");
        ButtonTin x = Check.told(text + " ".repeat(240 - text.length()));
        Check.due("E", x.told(0), 9);
        for (int i = 0; i < 12; i++) {
            int[] marks = {i % 5, i % 9 + 1, i % 6, i % 2};
            for (int m = 0; m < 4; m++) {
                Check.due("button(" + i + ", " + m + ")", x.button(i, m), marks[m]);
            }
        }
        for (int i = 0; i < 6; i++) {
            int[] parts = {i % 4, i % 3, 9 - i, 5 - i, i};
            for (int part = 0; part < 5; part++) {
                Check.due("rule(" + i + ", " + part + ")", x.rule(i, part), parts[part]);
            }
        }
        for (int i = 0; i < 5; i++) {
            int[] marks = {4 - i, 9 - i, 5 - i, 1 - i % 2};
            for (int m = 0; m < 4; m++) {
                Check.due("cause(" + i + ", " + m + ")", x.cause(i, m), marks[m]);
            }
            Check.due("need(" + i + ", 0)", x.need(i, 0), new int[] {1, 22, 3, 44, 5}[i]);
        }
        Check.due("in the tin", x.told(6), 4095);
    }

    /** A fault leaves all as it was but the text; a text without one makes all new but the seed. */
    private static void tellingAgain() {
        ButtonTin x = Check.told("t20;b2 3 0 0;b1 1 1 1;r0 0 2 0;r1 1 5 1;n2;");
        x.seed(77);
        x.write(0, 3);
        x.keep(0);
        x.put(0, 3);
        x.pull(1);
        x.up(1);
        x.sort();
        Check.feedAll(x, "t5;b9");
        Check.due("tin() with a fault", x.tin(), -12);
        Check.due("fault()", x.fault(), 4);
        Check.due("E as it was", x.told(0), 20);
        Check.due("buttons as they were", x.told(1), 2);
        Check.due("heap 3 as it was", x.heap(3), 1);
        Check.due("edge as it was", x.told(7), 2);
        Check.due("the book as it was", x.told(14), 1);
        Check.due("undone as it was", x.told(15), 4);
        Check.due("the order as it was", x.rule(1, 4), 0);
        Check.due("sorted as it was", x.told(9), 1);
        Check.feedAll(x, "t5;b2 3 0 0;b1 1 1 1;r0 0 2 0;r1 1 5 1;");
        Check.due("tin()", x.tin(), 2);
        Check.due("fault()", x.fault(), ButtonTin.NONE);
        Check.due("all in the tin", x.told(6), 3);
        Check.due("none at the edge", x.told(7), 0);
        Check.due("thread as told", x.button(1, 3), 1);
        Check.due("nothing sorted", x.told(9), 0);
        Check.due("no book", x.told(14), 0);
        Check.due("nothing to undo", x.undo(), ButtonTin.NOT);
        Check.due("rules as told", x.rule(1, 4), 1);
        Check.due("no image", x.goBack(0), ButtonTin.NOT);
        Check.due("no needs", x.need(0, 0), ButtonTin.UNKNOWN);
        Check.due("the seed stays", x.seed(1), 77);
        Check.feedAll(x, "t5;b2 3 0 0;b1 1 1 0;");
        Check.due("tin()", x.tin(), 2);
        Check.due("no thread as told", x.button(1, 3), 0);
        x.keep(1);
        x.feed(' ');
        Check.due("tin() of a blank", x.tin(), 0);
        Check.due("no tin: E", x.told(0), 0);
        Check.due("no tin: buttons", x.told(1), 0);
        Check.due("no tin: rules", x.told(2), 0);
        Check.due("no tin: drift", x.drift(1), ButtonTin.NOT);
        Check.due("no tin: no image", x.goBack(1), ButtonTin.NOT);
        Check.due("no tin: child", x.child(60), 1000000000);
        Check.due("no tin: the seed stays", x.seed(2), 1);
    }

    public static void main(String[] args) {
        newObject();
        feeding();
        faults();
        fineTexts();
        fullText();
        tellingAgain();
        Check.due("told(-1)", new ButtonTin().told(-1), ButtonTin.OUTSIDE);
        Check.due("told(16)", new ButtonTin().told(16), ButtonTin.OUTSIDE);
        Check.finish();
    }
}
