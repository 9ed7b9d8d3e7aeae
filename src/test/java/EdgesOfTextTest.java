import java.util.List;

/** Section 1 and promises 1 to 4: each sentence that names a bound, at the bound and on both sides of it. */
public final class EdgesOfTextTest {
    private static final int NONE = Run.NONE, NOT = Run.NOT, OUTSIDE = Run.OUTSIDE, FULL = Run.FULL, UNKNOWN = Run.UNKNOWN;

    /** A clause of the text: its word, how many of it there may be, where it is counted, and its numbers' bounds. */
    private record Clause(char word, int most, int counted, int[] low, int[] high) {
        String with(int part, String number) {
            StringBuilder text = new StringBuilder().append(word);
            for (int i = 0; i < low.length; i++) {
                text.append(i == 0 ? "" : " ").append(i == part ? number : Integer.toString(low[i]));
            }
            return text.append(';').toString();
        }

        String least() {
            return with(NONE, "");
        }

        int letterOf(int part) {
            return 1 + 2 * part;
        }

        /** The call that tells this number of the first of these. */
        String asked(int part) {
            return switch (word) {
                case 't' -> "told 0";
                case 'b' -> "button 0 " + part;
                case 'r' -> "rule 0 " + part;
                case 'u' -> "cause 0 " + part;
                default -> "need 0 0";
            };
        }
    }

    private static final List<Clause> CLAUSES = List.of(
        new Clause('t', 1, 0, new int[] {0}, new int[] {100}),
        new Clause('b', 12, 1, new int[] {0, 1, 0, 0}, new int[] {4, 9, 5, 1}),
        new Clause('r', 6, 2, new int[] {0, 0, 0, 0}, new int[] {3, 2, 9, 5}),
        new Clause('u', 5, 3, new int[] {0, 1, 0, 0}, new int[] {4, 9, 5, 1}),
        new Clause('n', 5, 4, new int[] {0}, new int[] {99}));

    /** A state in which all that can be told is told of: a fault has much to leave as it was. */
    private static Run busy(String sentence) {
        return new Run(sentence, "t20;b2 3 0 0;b4 3 1 1;r0 0 2 0;r1 1 5 1;u4 3 1 1;n9;")
            .does("seed 77", "put 0 3", "keep 0", "pull 1", "up 1", "keep 1", "sew 0 0", "unpick 0", "sort", "write 1 3", "write 0 0");
    }

    private static void newObject() {
        Run x = new Run("1: No TIN");
        for (int what = 0; what < 16; what++) {
            x.due("told " + what, what == 13 ? NONE : 0);
        }
        x.due("fault", NONE).due("button 0 0", UNKNOWN).due("rule 0 0", UNKNOWN).due("cause 0 0", UNKNOWN).due("need 0 0", UNKNOWN);
        for (int h = 0; h < 6; h++) {
            x.due("heap " + h, 0).due("fit " + h + " NONE", NOT).due("tells " + h, NOT);
        }
        x.due("put 0 0", UNKNOWN).due("takeBack 0", UNKNOWN).due("sort", NOT).due("sew 0 0", UNKNOWN).due("unpick 0", UNKNOWN)
            .due("pull 0", UNKNOWN).due("up 0", UNKNOWN).due("drift 1", NOT).due("drift 60", NOT).due("undo", NOT);
        x.due("teach 0", 0).due("teach 119", 0).due("match NONE", 0).due("match -2", 0).due("match 0", UNKNOWN)
            .due("load 1", NONE).due("load 999", NONE).due("slips 0 0", UNKNOWN).due("undid 0 0", UNKNOWN)
            .due("change 0", UNKNOWN).due("alike NONE", 0).due("alike 0", NONE).due("child 60", 1000000000);
        x.due("write 0 NONE", UNKNOWN).due("tear", 0).due("judge", NONE).due("goBack 0", NOT).due("goBack 1", NOT);
        x.due("seed 5", 0).due("keep 1", 1).due("seed 6", 5).due("goBack 1", 1).due("seed 0", 5).due("goBack 0", NOT);
    }

    private static void letters() {
        new Run("2: a number 0 .. 255").due("feed -1", OUTSIDE).due("feed 0", 1).due("feed 255", 2).due("feed 256", OUTSIDE)
            .due("feed MIN", OUTSIDE).due("feed MAX", OUTSIDE).due("told 5", 2);
    }

    private static void fullText() {
        Run x = new Run("2: FULL (240)");
        for (int i = 1; i <= 240; i++) {
            x.due("feed 32", i);
        }
        x.due("feed 32", FULL).due("feed 0", FULL).due("feed 255", FULL).due("told 5", 240);
        x.again().due("feed -1", OUTSIDE).due("feed 256", OUTSIDE);
        x.due("tin", 0).due("told 5", 0).due("feed 32", 1);
        Run last = new Run("THE TIN is told in a text (240 letters at most): the last counts").tell("t7;" + " ".repeat(234) + "n5");
        last.again().due("told 5", 239).due("tin", -11).due("fault", 239);
        last.due("feed 59", 240).due("feed 59", FULL).due("tin", 0).due("told 4", 1).due("need 0 0", 5);
    }

    private static void emptyTexts() {
        for (String text : List.of("", " ", "  ", " ".repeat(239), " ".repeat(240))) {
            Run x = new Run("An empty text (or one of blanks alone): no TIN");
            x.tell(text).due("tin", 0).due("fault", NONE).due("told 0", 0).due("told 1", 0).due("drift 1", NOT);
        }
        for (String text : List.of("", " ", " ".repeat(100))) {
            busy("An empty text: no TIN, ahead of it there was one").tell(text).due("tin", 0)
                .same("as a new object but for the seed", new Run("").does("seed 77"));
            new Run("An empty text: no TIN, after a fault").tell("x").due("tin", -11).tell(text).due("tin", 0).due("fault", NONE);
        }
        for (int letter : new int[] {0, 9, 10, 13, 31, 33, 160, 255}) {
            new Run("blanks (32): no other letter is one").faulty("" + (char) letter, 1, 0).faulty(" " + (char) letter + "t1;", 1, 1)
                .faulty("t1;" + (char) letter, 1, 3).faulty("t" + (char) letter + "1;", 1, 1).faulty("t1" + (char) letter + ";", 1, 2);
        }
    }

    /** Each number of each clause: its least, its most, one more, and what is far beyond. */
    private static void bounds() {
        for (Clause c : CLAUSES) {
            String ahead = c.word == 't' ? "" : "t1;";
            for (int part = 0; part < c.low.length; part++) {
                String name = "bounds of number " + part + " of '" + c.word + "'";
                for (int v = c.low[part]; v <= c.high[part]; v++) {
                    new Run(name, ahead + c.with(part, Integer.toString(v))).due(c.asked(part), v).due("fault", NONE);
                }
                int at = ahead.length() + c.letterOf(part);
                Run refusing = busy(name + " (at its first)");
                if (c.low[part] > 0) {
                    refusing.again().faulty(ahead + c.with(part, Integer.toString(c.low[part] - 1)), 2, at);
                    refusing.again().faulty(ahead + c.with(part, "00"), 2, at);
                } else {
                    refusing.again().faulty(ahead + c.with(part, "-1"), 1, at);
                }
                for (int v : new int[] {c.high[part] + 1, c.high[part] + 10, 256 + c.high[part], 999}) {
                    refusing.again().faulty(ahead + c.with(part, Integer.toString(v)), 2, at);
                    refusing.again().faulty(ahead + c.with(part, "  " + v), 2, at + 2);
                }
            }
        }
    }

    private static void figures() {
        for (Clause c : CLAUSES) {
            String ahead = c.word == 't' ? "" : "t1;";
            for (int part = 0; part < c.low.length; part++) {
                int at = ahead.length() + c.letterOf(part);
                String high = Integer.toString(c.high[part]);
                for (String zeros : List.of("", "0", "00")) {
                    if (zeros.length() + high.length() <= 3) {
                        new Run("NUMBERS have one to three figures", ahead + c.with(part, zeros + high)).due(c.asked(part), c.high[part]);
                    }
                }
                new Run("a NUMBER of four figures or more").faulty(ahead + c.with(part, "000" + c.low[part]), 2, at)
                    .faulty(ahead + c.with(part, "0000" + c.low[part]), 2, at)
                    .faulty(ahead + c.with(part, "0".repeat(99) + c.low[part]), 2, at)
                    .faulty(ahead + c.with(part, "1000"), 2, at);
                new Run("a NUMBER of four figures or more").faulty(ahead + c.with(part, "4294967296"), 2, at)
                    .faulty(ahead + c.with(part, "18446744073709551617"), 2, at);
            }
        }
        new Run("NUMBERS have one figure at least").faulty("t;", 1, 1).faulty("t ;", 1, 2).faulty("t1;n;", 1, 4).faulty("t1;b;", 1, 4)
            .faulty("t1;b0;", 1, 5).faulty("t1;b0 1;", 1, 7).faulty("t1;b0 1 0;", 1, 9).faulty("t1;r ;", 1, 5)
            .faulty("t1;r0 ;", 1, 6).faulty("t1;r0 0 0 ;", 1, 10).faulty("t1;u0 1 ;", 1, 8);
        String most = "t" + "0".repeat(239);
        new Run("a NUMBER of four figures or more: 239").faulty(most, 2, 1);
        new Run("a NUMBER of 237 figures, and what stands behind it").faulty("t" + "9".repeat(237) + ";x", 2, 1);
    }

    private static void tooMany() {
        for (Clause c : CLAUSES) {
            String ahead = c.word == 't' ? "" : "t1;";
            for (int many = c.word == 't' ? 1 : 0; many <= c.most; many++) {
                Run x = new Run("as many as there may be of '" + c.word + "'", ahead + c.least().repeat(many));
                x.due(c.word == 't' ? "told 0" : "told " + c.counted, c.word == 't' ? 0 : many);
            }
            String full = ahead + c.least().repeat(c.most);
            String name = "3 't' again, a 13th 'b', a seventh 'r', a sixth 'u', 'n' (at it): " + c.word;
            busy(name).faulty(full + c.least(), 3, full.length());
            busy(name).faulty(full + c.word, 3, full.length());
            busy(name).faulty(full + "  " + c.word + "9999", 3, full.length() + 2);
            busy(name).faulty(full + c.word + "x", 3, full.length());
            for (Clause other : CLAUSES) {
                if (other != c && other.word != 't') {
                    busy(name + ", not behind it").faulty(full + other.least() + c.word, 3, full.length() + other.least().length());
                }
            }
        }
        String all = "t1;" + "b01 1 0 0;b0 01 0 0;" + "b0 1 0 0;".repeat(10) + "r0 0 0 0;".repeat(6) + "u0 1 0 0;".repeat(5) + "n0;".repeat(5);
        Check.due("the fullest tin's letters", all.length(), 227);
        Run x = new Run("the fullest TIN").tell(all).due("tin", 12);
        x.due("told 1", 12).due("told 2", 6).due("told 3", 5).due("told 4", 5);
        for (int kind = 0; kind < 4; kind++) {
            String last = new String[] {"button 11 0", "rule 5 0", "cause 4 0", "need 4 0"}[kind];
            String none = new String[] {"button 12 0", "rule 6 0", "cause 5 0", "need 5 0"}[kind];
            x.due(last, 0).due(none, UNKNOWN);
        }
        for (String more : List.of("t", "b", "r", "u", "n")) {
            new Run("the fullest TIN, and one more").faulty(all + more, 3, 227);
        }
    }

    private static void firstAndOnce() {
        for (Clause c : CLAUSES) {
            if (c.word != 't') {
                busy("another word first than 't'").faulty(c.least(), 1, 0);
                busy("another word first than 't'").faulty("  " + c.least() + "t1;", 1, 2);
                busy("another word first than 't'").faulty("" + c.word, 1, 0);
            }
        }
        busy("'t' first, once").faulty("t1;t1;", 3, 3);
        busy("'t' first, once").faulty("t1;n1;t1;", 3, 6);
        for (String text : List.of("t1;n5;b0 1 0 0;n6;r0 0 0 0;u0 1 0 0;b0 2 0 0;", "t1;u0 1 0 0;b0 1 0 0;r0 0 0 0;n5;b0 2 0 0;n6;")) {
            new Run("behind 't' clauses stand in any order; what has a number has it as it comes", text)
                .due("button 0 1", 1).due("button 1 1", 2).due("need 0 0", 5).due("need 1 0", 6).due("told 2", 1).due("told 3", 1);
        }
    }

    private static final String WHOLE = "t20;b2 3 0 0;r1 1 5 1;u4 3 1 1;n14;";

    private static boolean isFigure(char c) {
        return c >= '0' && c <= '9';
    }

    /** A blank at each place of a text; and each of its blanks taken out. */
    private static void blanks() {
        Run want = new Run("blanks (32) may stand anywhere but within NUMBERS", WHOLE);
        for (int i = 0; i <= WHOLE.length(); i++) {
            boolean within = i > 0 && i < WHOLE.length() && isFigure(WHOLE.charAt(i - 1)) && isFigure(WHOLE.charAt(i));
            for (int many = 1; many <= 3; many += 2) {
                String text = WHOLE.substring(0, i) + " ".repeat(many) + WHOLE.substring(i);
                if (within) {
                    new Run("blanks not within NUMBERS").faulty(text, 1, i + many);
                } else {
                    new Run("blanks (32) may stand anywhere", text).same("with a blank at " + i, want);
                }
            }
            if (i < WHOLE.length() && WHOLE.charAt(i) == ' ') {
                String text = WHOLE.substring(0, i) + WHOLE.substring(i + 1);
                Check.holds("two NUMBERS side by side need one: " + text, tinOf(text) < 0);
            }
        }
        new Run("two NUMBERS side by side need one").faulty("t0;b0100;", 2, 4).faulty("t0;b010 0;", 2, 4).faulty("t0;b01 1 0;", 1, 10)
            .faulty("t0;b0 100;", 2, 6).faulty("t0;b0 1 00;", 1, 10);
        new Run("letters need none", "t0;b0 1 0 0;n5;").same("with blanks", new Run("", " t 0 ; b 0 1 0 0 ; n 5 ; "));
    }

    private static int tinOf(String text) {
        ButtonTin x = new ButtonTin();
        Check.feedAll(x, text);
        return x.tin();
    }

    /** The text cut at each of its letters. */
    private static void ends() {
        for (int i = 1; i < WHOLE.length(); i++) {
            String text = WHOLE.substring(0, i);
            if (text.endsWith(";")) {
                new Run("a text that ends behind a clause", text).due("fault", NONE);
                new Run("a text that ends behind a clause, and a blank", text + " ").due("fault", NONE);
            } else {
                busy("the end at the text's length").faulty(text, 1, i);
                busy("the end at the text's length").faulty(text + "  ", 1, i + 2);
            }
        }
        new Run("the end at the text's length: 240").faulty("t5" + " ".repeat(238), 1, 240);
        new Run("the end at the text's length: 239").faulty("t5" + " ".repeat(237), 1, 239);
        new Run("the end at the text's length: 1").faulty("t", 1, 1);
    }

    /** Each letter of the 256 in each place where one letter or another may stand. */
    private static void eachLetter() {
        for (int letter = 0; letter < 256; letter++) {
            char c = (char) letter;
            boolean word = "tbrun".indexOf(c) >= 0;
            checkLetter("first", "", c, c == 't' ? -11 : c == ' ' ? 0 : -11, c == 't' ? 1 : c == ' ' ? NONE : 0);
            checkLetter("behind a clause", "t1;", c, c == ' ' ? 0 : c == 't' ? -13 : -11, c == ' ' ? NONE : word && c != 't' ? 4 : 3);
            checkLetter("for a number", "t", c, -11, isFigure(c) || c == ' ' ? 2 : 1);
            checkLetter("behind a number", "t1", c, c == ';' ? 0 : -11, c == ';' ? NONE : isFigure(c) || c == ' ' ? 3 : 2);
            checkLetter("between numbers", "t1;b1", c, isFigure(c) ? -12 : -11, isFigure(c) ? 4 : c == ' ' ? 6 : 5);
            checkLetter("for a second number", "t1;b1 ", c, c == '0' ? -12 : -11, c == '0' ? 6 : isFigure(c) || c == ' ' ? 7 : 6);
        }
    }

    private static void checkLetter(String place, String ahead, char c, int answer, int letter) {
        new Run("1 it cannot stand there: " + (int) c + " " + place).tell(ahead + c).due("tin", answer).due("fault", letter)
            .due("told 5", 0);
    }

    private static void severalFaults() {
        busy("at the first letter that has one").faulty("t101;x", 2, 1).faulty("t1;x;b9", 1, 3).faulty("t1;b9 x", 2, 4);
        busy("at the first letter that has one").faulty("t1;b4 0 9 9;", 2, 6).faulty("t1;t101", 3, 3).faulty("t101;t", 2, 1);
        busy("at the first letter that has one").faulty("t1;b0 1 0 0 0", 1, 12).faulty("t1 x1000", 1, 3).faulty("t1;n5n100;", 1, 5);
        busy("of these the least: 1 and 2").faulty("1000", 1, 0).faulty("t5 1000;", 1, 3).faulty("t5;1000", 1, 3).faulty("t5;999", 1, 3);
        busy("of these the least: 1 and 2").faulty("t5;b0 1 0 0 9999;", 1, 12).faulty("t5;n5 100;", 1, 6);
        busy("of these the least: 1 and 3").faulty("t5 t", 1, 3).faulty("t5t", 1, 2).faulty("tt", 1, 1).faulty("t5;b0 t", 1, 6);
        String five = "t1;" + "n0;".repeat(5);
        busy("of these the least: 1 and 3").faulty(five + "u n", 1, 20).faulty(five + "u0 1 0 0n", 1, 26);
        busy("a word is one letter").faulty("t5;nn5;", 1, 4).faulty("t5;b b0 1 0 0;", 1, 5).faulty("t5;B0 1 0 0;", 1, 3)
            .faulty("T5;", 1, 0);
        busy("clauses end with ';'").faulty("t5;;", 1, 3).faulty(";", 1, 0).faulty("t5;n5:", 1, 5).faulty("t5,n5;", 1, 2)
            .faulty("t5 n5;", 1, 3);
    }

    private static void answers() {
        new Run("3: how many BUTTONS").tell("t1;").due("tin", 0);
        for (int many = 1; many <= 12; many++) {
            new Run("3: how many BUTTONS").tell("t1;" + "b0 1 0 0;".repeat(many)).due("tin", many).due("told 1", many);
        }
        Run busy = busy("3: it is empty then, with a FAULT, too");
        busy.again().tell("t1").due("told 5", 2).due("tin", -11).due("told 5", 0).due("tin", 0).due("fault", NONE);
        busy.again().tell("t1;").due("told 5", 3).due("tin", 0).due("told 5", 0).due("feed 116", 1);
        busy.again().tell(WHOLE).due("tin", 1).same("3: all is new, THE SEED stays", new Run("", WHOLE).does("seed 77"));
        String same = "t20;b2 3 0 0;b4 3 1 1;r0 0 2 0;r1 1 5 1;u4 3 1 1;n9;";
        busy.again().tell(same).due("tin", 2).same("3: by the same text, too", new Run("", same).does("seed 77"));
        busy.again().tell("t20;").due("tin", 0).same("3: by a text without BUTTONS, too", new Run("", "t20;").does("seed 77"));
        busy.again().due("goBack 0", 1).tell("t1;b0 1 0 0;").due("tin", 1).due("goBack 0", NOT).due("goBack 1", NOT).due("undo", NOT)
            .due("told 14", 0).due("told 9", 0);
    }

    /** Of a fuller TIN nothing is left in a lesser one, however often there were such. */
    private static void lesserTins() {
        String full = "t100;" + "b0 1 0 0;".repeat(12) + "r0 0 0 0;".repeat(6) + "u0 1 0 0;".repeat(5) + "n0;".repeat(5);
        for (String text : List.of("t0;b0 1 0 0;r0 0 0 0;u0 1 0 0;n0;", "t0;b0 1 0 0;", "t0;b0 1 0 0;b0 1 0 0;", "t0;r0 0 0 0;u0 1 0 0;n0;", "t0;", "")) {
            Run fuller = new Run("3: THE TEXT becomes THE TIN, a lesser one", full)
                .does("sort", "put 0 5", "sew 1 4", "up 5", "keep 0", "tells 0");
            fuller.tell(full).does("tin", "sort", "sew 11 0");
            fuller.tell(text).does("tin").same("as by this text alone", new Run("").tell(text).does("tin"));
        }
    }

    private static void faults() {
        Run x = new Run("4: the FAULT of the latest tin(); NONE").due("fault", NONE).tell("t1;x");
        x.due("fault", NONE).due("tin", -11).due("fault", 3).due("fault", 3).tell("  y").due("fault", 3);
        x.due("tin", -11).due("fault", 2).due("sort", NOT).due("fault", 2).does("keep 0", "goBack 0").due("fault", 2);
        x.due("tin", 0).due("fault", NONE).tell("t101").due("tin", -12).due("fault", 1).tell("t1;t").due("tin", -13).due("fault", 3);
        x.tell("t1;b0 1 0 0;").due("fault", 3).due("tin", 1).due("fault", NONE).does("put 0 0", "undo").due("fault", NONE);
    }

    public static void main(String[] args) {
        newObject();
        letters();
        fullText();
        emptyTexts();
        bounds();
        figures();
        tooMany();
        firstAndOnce();
        blanks();
        ends();
        eachLetter();
        severalFaults();
        answers();
        lesserTins();
        faults();
        Check.finish();
    }
}
