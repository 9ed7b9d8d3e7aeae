/** Counts the answers that are not as due, and prints them. */
final class Check {
    private static int wrong;
    private static int asked;

    private Check() {
    }

    static void due(String call, long got, long want) {
        asked++;
        if (got != want) {
            wrong++;
            System.out.println(call + " answered " + got + ", due is " + want);
        }
    }

    static void holds(String what, boolean true_) {
        due(what, true_ ? 1 : 0, 1);
    }

    static void feedAll(ButtonTin x, String text) {
        for (int i = 0; i < text.length(); i++) {
            x.feed(text.charAt(i));
        }
    }

    /** A new object whose tin is this text's. */
    static ButtonTin told(String text) {
        ButtonTin x = new ButtonTin();
        feedAll(x, text);
        int answer = x.tin();
        if (answer < 0) {
            due("tin() of " + text, answer, 0);
        }
        return x;
    }

    static void finish() {
        System.out.println(asked + " answers looked at, " + wrong + " not as due");
        if (wrong != 0) {
            System.exit(1);
        }
    }
}
