/** Promises 5 to 19, and 30 to 35: what is done with buttons and rules, the book, draws, images. */
public final class DoneTest {
    private static final int NONE = ButtonTin.NONE, UNKNOWN = ButtonTin.UNKNOWN, OUTSIDE = ButtonTin.OUTSIDE;
    private static final int NOT = ButtonTin.NOT, FULL = ButtonTin.FULL;
    /** They hold 9, 10, 15, 4, 2, 10; they go to 0, nowhere, 0, 1, nowhere, nowhere. */
    private static final String SIX = "t20;b2 3 0 0;b4 3 1 1;b2 5 2 0;b0 9 5 1;b1 1 1 0;b4 3 1 1;"
        + "r0 0 2 0;r1 1 5 1;r2 2 0 3;u4 3 1 1;u2 3 2 0;u0 9 0 0;n9;n14;n99;";

    private static ButtonTin six() {
        return Check.told(SIX);
    }

    private static void buttons() {
        ButtonTin x = six();
        int[] hold = {9, 10, 15, 4, 2, 10};
        int[] goes = {0, NONE, 0, 1, NONE, NONE};
        for (int b = 0; b < 6; b++) {
            Check.due("button(" + b + ", 4)", x.button(b, 4), hold[b]);
            Check.due("button(" + b + ", 5)", x.button(b, 5), NONE);
            Check.due("button(" + b + ", 6)", x.button(b, 6), NONE);
            Check.due("button(" + b + ", 7)", x.button(b, 7), goes[b]);
        }
        Check.due("out", x.told(10), 50);
        Check.due("out, the first too", Check.told("t0;b0 1 0 0;b1 1 0 0;r0 0 1 0;").told(10), 1);
        Check.due("button(6, 0)", x.button(6, 0), UNKNOWN);
        Check.due("button(-1, 8)", x.button(-1, 8), UNKNOWN);
        Check.due("button(0, 8)", x.button(0, 8), OUTSIDE);
        Check.due("button(0, -1)", x.button(0, -1), OUTSIDE);
        Check.due("one that holds nothing", Check.told("t0;b0 4 0 1;").button(0, 4), 0);
        Check.due("one that holds a little", Check.told("t0;b0 6 0 1;").button(0, 4), 1);
        x.put(0, 5);
        x.sew(2, 1);
        Check.due("button(0, 5), put", x.button(0, 5), 5);
        Check.due("button(2, 5), sewn", x.button(2, 5), NONE);
        Check.due("button(2, 6), sewn", x.button(2, 6), 1);
        Check.due("told(8)", x.told(8), 4);
        Check.due("told(6)", x.told(6), 58);
    }

    private static void rulesCausesNeeds() {
        ButtonTin x = six();
        Check.due("rule(2, 3)", x.rule(2, 3), 3);
        Check.due("rule(2, 4)", x.rule(2, 4), 2);
        Check.due("rule(3, 9)", x.rule(3, 9), UNKNOWN);
        Check.due("rule(-1, 0)", x.rule(-1, 0), UNKNOWN);
        Check.due("rule(0, 5)", x.rule(0, 5), OUTSIDE);
        Check.due("rule(0, -1)", x.rule(0, -1), OUTSIDE);
        Check.due("cause(2, 1)", x.cause(2, 1), 9);
        Check.due("cause(3, 4)", x.cause(3, 4), UNKNOWN);
        Check.due("cause(-1, 0)", x.cause(-1, 0), UNKNOWN);
        Check.due("cause(0, 4)", x.cause(0, 4), OUTSIDE);
        Check.due("cause(0, -1)", x.cause(0, -1), OUTSIDE);
        Check.due("need(2, 0)", x.need(2, 0), 99);
        Check.due("need(2, 1)", x.need(2, 1), NONE);
        Check.due("need(3, 2)", x.need(3, 2), UNKNOWN);
        Check.due("need(-1, 0)", x.need(-1, 0), UNKNOWN);
        Check.due("need(0, 2)", x.need(0, 2), OUTSIDE);
        Check.due("need(0, -1)", x.need(0, -1), OUTSIDE);
    }

    private static void putAndTaken() {
        ButtonTin x = six();
        Check.due("put(6, 6)", x.put(6, 6), UNKNOWN);
        Check.due("put(0, 6)", x.put(0, 6), OUTSIDE);
        Check.due("put(0, -1)", x.put(0, -1), OUTSIDE);
        Check.due("put(1, 5)", x.put(1, 5), 2);
        Check.due("put(3, 5)", x.put(3, 5), 10);
        Check.due("put(3, 5) again", x.put(3, 5), NOT);
        Check.due("put(3, 0)", x.put(3, 0), 8);
        Check.due("heap(5)", x.heap(5), 2);
        Check.due("heap(0)", x.heap(0), 8);
        Check.due("heap(6)", x.heap(6), OUTSIDE);
        Check.due("heap(-1)", x.heap(-1), OUTSIDE);
        Check.due("takeBack(6)", x.takeBack(6), UNKNOWN);
        Check.due("takeBack(-1)", x.takeBack(-1), UNKNOWN);
        Check.due("takeBack(0)", x.takeBack(0), NOT);
        Check.due("takeBack(3)", x.takeBack(3), 61);
        x.sew(2, 0);
        Check.due("put(2, 0), sewn", x.put(2, 0), NOT);
        Check.due("put(2, 6), sewn", x.put(2, 6), OUTSIDE);
        Check.due("takeBack(2), sewn", x.takeBack(2), NOT);
        x.sort();
        Check.due("put(4, 4), from the edge", x.put(4, 4), 16);
        Check.due("takeBack(5), from the edge", x.takeBack(5), 32);
    }

    private static void sorted() {
        ButtonTin x = six();
        x.put(1, 2);
        Check.due("sort()", x.sort(), 5);
        Check.due("sort() again", x.sort(), NOT);
        Check.due("heap(0)", x.heap(0), 5);
        Check.due("heap(1)", x.heap(1), 8);
        Check.due("heap(2)", x.heap(2), 2);
        Check.due("edge", x.told(7), 48);
        Check.due("tin", x.told(6), 0);
        Check.due("sorted", x.told(9), 5);
        Check.due("wrong heap", x.told(11), 2);
        x.takeBack(5);
        Check.due("sort() of one", x.sort(), 1);
        Check.due("sorted in all", x.told(9), 6);
        Check.due("heaviest: 24, 4, 10", x.told(13), 0);
        x.put(0, 2);
        Check.due("heaviest: 15, 4, 19", x.told(13), 2);
        x.put(3, 0);
        Check.due("heaviest: 19, 0, 19", x.told(13), 0);
        x.put(0, 5);
        Check.due("wrong heap, the first too", x.told(11), 11);
        ButtonTin twelve = Check.told("t0;" + "b0 1 0 0;".repeat(12) + "r0 0 0 5;n1;");
        Check.due("sort() of twelve", twelve.sort(), 12);
        Check.due("heap(5)", twelve.heap(5), 4095);
        Check.due("heaviest", twelve.told(13), 5);
        ButtonTin y = Check.told("t0;b0 4 0 1;");
        y.put(0, 3);
        Check.due("heaviest, of a button that holds nothing", y.told(13), 3);
    }

    private static void sewnAndUnpicked() {
        ButtonTin x = six();
        Check.due("sew(6, 0)", x.sew(6, 0), UNKNOWN);
        Check.due("sew(0, 3)", x.sew(0, 3), UNKNOWN);
        Check.due("sew(0, -1)", x.sew(0, -1), UNKNOWN);
        Check.due("sew(-1, 0)", x.sew(-1, 0), UNKNOWN);
        Check.due("sew(3, 0), too weak", x.sew(3, 0), NOT);
        Check.due("sew(1, 1), too weak", x.sew(1, 1), NOT);
        Check.due("sew(0, 0), just strong enough", x.sew(0, 0), 9);
        Check.due("sew(2, 0), it has one", x.sew(2, 0), NOT);
        Check.due("sew(0, 0) again", x.sew(0, 0), NOT);
        x.put(2, 3);
        Check.due("sew(2, 1), from a heap", x.sew(2, 1), 15);
        Check.due("heap(3)", x.heap(3), 0);
        Check.due("need(1, 1)", x.need(1, 1), 2);
        Check.due("sewn", x.told(8), 5);
        Check.due("pull(2), sewn", x.pull(2), NOT);
        Check.due("unpick(2)", x.unpick(2), NOT);
        Check.due("unpick(3)", x.unpick(3), UNKNOWN);
        Check.due("unpick(-1)", x.unpick(-1), UNKNOWN);
        Check.due("unpick(1)", x.unpick(1), 2);
        Check.due("thread in it", x.button(2, 3), 1);
        Check.due("it holds less", x.button(2, 4), 10);
        Check.due("it is in the tin", x.told(6), 62);
        Check.due("the need has none", x.need(1, 1), NONE);
        Check.due("sew(2, 1), too weak now", x.sew(2, 1), NOT);
        Check.due("pull(2)", x.pull(2), 15);
        Check.due("pull(2) again", x.pull(2), NOT);
        Check.due("pull(6)", x.pull(6), UNKNOWN);
        Check.due("pull(-1)", x.pull(-1), UNKNOWN);
        Check.due("sew(2, 1) again", x.sew(2, 1), 15);
        Check.due("one with thread can be sewn on", six().sew(1, 0), 10);
        ButtonTin y = six();
        y.sew(1, 0);
        Check.due("pull(1), sewn with thread", y.pull(1), NOT);
        Check.due("sew(1, 1), sewn already", y.sew(1, 1), NOT);
    }

    private static void rulesMoved() {
        ButtonTin x = six();
        Check.due("up(3)", x.up(3), UNKNOWN);
        Check.due("up(-1)", x.up(-1), UNKNOWN);
        Check.due("up(0)", x.up(0), NOT);
        Check.due("up(2)", x.up(2), 1);
        Check.due("rule(1, 4)", x.rule(1, 4), 2);
        Check.due("rule(2, 4)", x.rule(2, 4), 1);
        Check.due("idle", x.told(12), 4);
        Check.due("up(2)", x.up(2), 0);
        Check.due("up(2), first", x.up(2), NOT);
        Check.due("rule(0, 4)", x.rule(0, 4), 1);
        Check.due("button(0, 7)", x.button(0, 7), 3);
        Check.due("button(2, 7)", x.button(2, 7), 0);
        Check.due("none is idle", x.told(12), 0);
        Check.due("up(1)", x.up(1), 1);
        Check.due("button(2, 7)", x.button(2, 7), 1);
        Check.due("idle", x.told(12), 1);
        Check.due("rules without buttons are idle", Check.told("t0;r0 0 0 0;r0 1 0 0;").told(12), 3);
    }

    private static void drifts() {
        ButtonTin x = Check.told("t20;b2 3 0 0;b4 3 1 1;r0 0 2 0;n1;");
        Check.due("drift(0)", x.drift(0), OUTSIDE);
        Check.due("drift(61)", x.drift(61), OUTSIDE);
        Check.due("drift(3)", x.drift(3), 1);
        Check.due("heap(0)", x.heap(0), 1);
        Check.due("tin", x.told(6), 2);
        Check.due("drift(1)", x.drift(1), 2);
        Check.due("edge", x.told(7), 2);
        Check.due("the seed after eight draws", x.seed(0), 1293799192);
        Check.due("undo()", x.undo(), 1);
        Check.due("tin, undone", x.told(6), 2);
        Check.due("sorted, undone", x.told(9), 1);
        Check.due("the seed stays", x.seed(0), 0);

        ButtonTin y = Check.told("t100;b2 3 0 0;r0 0 2 0;");
        Check.due("drift(1), errs", y.drift(1), 0);
        Check.due("heap(4)", y.heap(4), 1);
        Check.due("drift(1), taken at 98", y.drift(1), 0);
        Check.due("tin", y.told(6), 1);
        Check.due("drift(1), errs again", y.drift(1), 0);
        Check.due("heap(1)", y.heap(1), 1);
        Check.due("the seed after eight draws", y.seed(24), 1293799192);
        y.drift(1);
        Check.due("90 is taken", y.told(6), 1);
        Check.due("the seed after two draws", y.seed(108), 320507990);
        y.put(0, 2);
        y.drift(1);
        Check.due("89 is not taken", y.heap(2), 1);

        Check.due("68 is not below 68", Check.told("t68;b2 3 0 0;").drift(1), 1);
        Check.due("68 is below 69", Check.told("t69;b2 3 0 0;").drift(1), 0);

        ButtonTin z = Check.told("t0;b2 3 0 0;n1;");
        z.sew(0, 0);
        z.seed(24);
        Check.due("drift(1), sewn", z.drift(1), 0);
        Check.due("it stays sewn", z.told(8), 1);
        Check.due("two draws all the same", z.seed(24), 320507990);
        z.unpick(0);
        z.sort();
        Check.due("at the edge", z.told(7), 1);
        z.drift(1);
        Check.due("taken from the edge", z.told(6), 1);

        ButtonTin none = Check.told("t0;");
        Check.due("drift(60) without buttons", none.drift(60), 0);
        Check.due("nothing drawn", none.seed(3), 0);
        Check.due("it can be undone", none.told(15), 1);
    }

    private static void undone() {
        ButtonTin x = six();
        Check.due("undo()", x.undo(), NOT);
        x.put(0, 0);
        x.takeBack(0);
        x.sew(2, 1);
        x.unpick(1);
        x.pull(1);
        x.up(1);
        x.sort();
        x.put(0, 9);
        x.put(9, 0);
        x.sort();
        Check.due("refused ones do not count", x.told(15), 7);
        Check.due("undo() sort", x.undo(), 6);
        Check.due("tin", x.told(6), 63);
        Check.due("sorted", x.told(9), 0);
        Check.due("undo() up", x.undo(), 5);
        Check.due("order", x.rule(1, 4), 1);
        Check.due("undo() pull", x.undo(), 4);
        Check.due("thread", x.button(1, 3), 1);
        Check.due("undo() unpick", x.undo(), 3);
        Check.due("sewn", x.need(1, 1), 2);
        Check.due("no thread", x.button(2, 3), 0);
        Check.due("undo() sew", x.undo(), 2);
        Check.due("not sewn", x.told(8), 0);
        Check.due("undo() takeBack", x.undo(), 1);
        Check.due("in the heap", x.heap(0), 1);
        Check.due("undo() put", x.undo(), 0);
        Check.due("in the tin", x.told(6), 63);
        Check.due("undo()", x.undo(), NOT);

        ButtonTin y = six();
        for (int i = 0; i < 20; i++) {
            y.put(0, i % 6);
        }
        Check.due("sixteen at most", y.told(15), 16);
        for (int i = 15; i >= 0; i--) {
            Check.due("undo()", y.undo(), i);
            Check.due("heap of button 0", y.button(0, 5), (i + 3) % 6);
        }
        Check.due("the oldest are lost", y.undo(), NOT);
        Check.due("heap(3)", y.heap(3), 1);
    }

    private static void books() {
        ButtonTin x = six();
        Check.due("judge() of none", x.judge(), NONE);
        Check.due("tear() of none", x.tear(), 0);
        Check.due("write(6, 7)", x.write(6, 7), UNKNOWN);
        Check.due("write(-1, 0)", x.write(-1, 0), UNKNOWN);
        Check.due("write(0, 6)", x.write(0, 6), OUTSIDE);
        Check.due("write(0, -2)", x.write(0, -2), OUTSIDE);
        Check.due("write(0, 0)", x.write(0, 0), 1);
        Check.due("write(4, NONE)", x.write(4, NONE), 2);
        Check.due("write(3, 5)", x.write(3, 5), 3);
        Check.due("judge()", x.judge(), 0);
        x.sort();
        Check.due("judge(), at the edge is in none", x.judge(), 2);
        x.put(3, 5);
        Check.due("judge()", x.judge(), NONE);
        x.put(4, 0);
        Check.due("judge()", x.judge(), 1);
        Check.due("undo() leaves the book", x.undo(), 2);
        for (int i = 4; i <= 15; i++) {
            Check.due("write(5, 5)", x.write(5, 5), i);
        }
        Check.due("write(5, 5), full", x.write(5, 5), FULL);
        Check.due("write(5, 6), full", x.write(5, 6), OUTSIDE);
        Check.due("write(6, 6), full", x.write(6, 6), UNKNOWN);
        Check.due("entries", x.told(14), 15);
        x.keep(0);
        Check.due("tear()", x.tear(), 15);
        x.goBack(0);
        Check.due("images keep no book", x.told(14), 0);
    }

    private static void seedsAndImages() {
        ButtonTin x = six();
        Check.due("seed(-1)", x.seed(-1), OUTSIDE);
        Check.due("seed(9)", x.seed(9), 0);
        ButtonTin y = Check.told("t0;b0 1 0 0;");
        Check.due("seed(max)", y.seed(2147483647), 0);
        y.drift(1);
        Check.due("the seed after two draws", y.seed(0), 288979989);
        Check.due("keep(2)", x.keep(2), UNKNOWN);
        Check.due("keep(-1)", x.keep(-1), UNKNOWN);
        Check.due("goBack(2)", x.goBack(2), UNKNOWN);
        Check.due("goBack(-1)", x.goBack(-1), UNKNOWN);
        Check.due("goBack(0)", x.goBack(0), NOT);
        x.put(0, 4);
        x.pull(1);
        x.up(1);
        x.sort();
        Check.due("goBack(0), refused, changes nothing", x.goBack(0), NOT);
        Check.due("undone", x.told(15), 4);
        Check.due("keep(0)", x.keep(0), 1);
        Check.due("nothing can be undone", x.undo(), NOT);
        Check.due("goBack(1)", x.goBack(1), NOT);
        x.takeBack(0);
        x.up(1);
        x.up(2);
        x.seed(5);
        x.sort();
        Check.due("keep(1)", x.keep(1), 1);
        x.put(3, 3);
        Check.due("goBack(0)", x.goBack(0), 1);
        Check.due("heap(4)", x.heap(4), 1);
        Check.due("heap(1)", x.heap(1), 12);
        Check.due("thread", x.button(1, 3), 0);
        Check.due("order", x.rule(1, 4), 0);
        Check.due("order", x.rule(2, 4), 2);
        Check.due("sorted", x.told(9), 5);
        Check.due("nothing can be undone", x.told(15), 0);
        Check.due("the seed came back", x.seed(1), 9);
        Check.due("goBack(1)", x.goBack(1), 1);
        Check.due("sorted", x.told(9), 6);
        Check.due("the seed came back", x.seed(1), 5);
        Check.due("goBack(0), kept still", x.goBack(0), 1);
        Check.due("sorted", x.told(9), 5);
    }

    public static void main(String[] args) {
        buttons();
        rulesCausesNeeds();
        putAndTaken();
        sorted();
        sewnAndUnpicked();
        rulesMoved();
        drifts();
        undone();
        books();
        seedsAndImages();
        Check.finish();
    }
}
