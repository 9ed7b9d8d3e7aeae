import java.util.ArrayList;
import java.util.Arrays;
import java.util.List;

/**
 * A run of calls on a new object, told in words ("put 0 5"), for one sentence of the document.
 * "What is refused changes nothing" is looked at by itself: whenever a call is refused, a run with it
 * and a run without it are asked all that can be asked.
 */
final class Run {
    static final int NONE = ButtonTin.NONE, UNKNOWN = ButtonTin.UNKNOWN, OUTSIDE = ButtonTin.OUTSIDE;
    static final int NOT = ButtonTin.NOT, FULL = ButtonTin.FULL;
    static final int MIN = Integer.MIN_VALUE, MAX = Integer.MAX_VALUE;
    private static final int MOST_CALLS = 512;

    /** One call; numbers that it does not take are 0. */
    private record Call(String name, int a, int b) {
        static Call of(String words) {
            String[] parts = words.split(" ");
            return new Call(parts[0], parts.length > 1 ? number(parts[1]) : 0, parts.length > 2 ? number(parts[2]) : 0);
        }

        private static int number(String word) {
            return switch (word) {
                case "NONE" -> NONE;
                case "MIN" -> MIN;
                case "MAX" -> MAX;
                default -> Integer.parseInt(word);
            };
        }

        int on(ButtonTin x) {
            return switch (name) {
                case "feed" -> x.feed(a);
                case "tin" -> x.tin();
                case "fault" -> x.fault();
                case "told" -> x.told(a);
                case "button" -> x.button(a, b);
                case "rule" -> x.rule(a, b);
                case "cause" -> x.cause(a, b);
                case "need" -> x.need(a, b);
                case "heap" -> x.heap(a);
                case "put" -> x.put(a, b);
                case "takeBack" -> x.takeBack(a);
                case "sort" -> x.sort();
                case "sew" -> x.sew(a, b);
                case "unpick" -> x.unpick(a);
                case "pull" -> x.pull(a);
                case "up" -> x.up(a);
                case "drift" -> x.drift(a);
                case "undo" -> x.undo();
                case "fit" -> x.fit(a, b);
                case "tells" -> x.tells(a);
                case "teach" -> x.teach(a);
                case "match" -> x.match(a);
                case "load" -> x.load(a);
                case "slips" -> x.slips(a, b);
                case "undid" -> x.undid(a, b);
                case "change" -> x.change(a);
                case "alike" -> x.alike(a);
                case "child" -> x.child(a);
                case "write" -> x.write(a, b);
                case "tear" -> x.tear();
                case "judge" -> x.judge();
                case "seed" -> x.seed(a);
                case "keep" -> x.keep(a);
                case "goBack" -> x.goBack(a);
                default -> throw new IllegalArgumentException(name);
            };
        }
    }

    private final String sentence;
    private final List<Call> calls = new ArrayList<>();
    private final ButtonTin x = new ButtonTin();

    Run(String sentence) {
        this.sentence = sentence;
    }

    /** A run that begins with a text without a fault. */
    Run(String sentence, String text) {
        this(sentence);
        tell(text);
        Check.holds(sentence + " | tin() of " + text, make("tin") >= 0);
    }

    private Run(Run other) {
        this(other.sentence);
        for (Call call : other.calls) {
            calls.add(call);
            call.on(x);
        }
    }

    /** As this run, to go on from in another way. */
    Run again() {
        return new Run(this);
    }

    private int make(String words) {
        Call call = Call.of(words);
        calls.add(call);
        Check.holds(sentence + " | within 512 calls", calls.size() <= MOST_CALLS);
        return call.on(x);
    }

    private static boolean isRefusal(int answer) {
        return answer <= UNKNOWN && answer >= FULL;
    }

    private String label(String words) {
        StringBuilder done = new StringBuilder(sentence).append(" |");
        StringBuilder text = new StringBuilder();
        for (Call call : calls) {
            if (call.name.equals("feed")) {
                text.append((char) call.a);
            } else {
                done.append(text.isEmpty() ? "" : " '" + text + "'");
                done.append(' ').append(call.name).append('(').append(call.a).append(',').append(call.b).append(')');
                text.setLength(0);
            }
        }
        return done + " | " + words;
    }

    /** Calls that are not refused. */
    Run does(String... all) {
        for (String words : all) {
            int answer = make(words);
            if (isRefusal(answer)) {
                Check.due(label(words), answer, 0);
            }
        }
        return this;
    }

    /** A call and its answer; a refused one is looked at for what it changed. */
    Run due(String words, int want) {
        List<Call> before = new ArrayList<>(calls);
        int got = make(words);
        Check.due(got == want ? words : label(words), got, want);
        if (isRefusal(want)) {
            checkSame(words + " is refused and changes nothing", before, calls, true);
        }
        return this;
    }

    /** What a call would answer now; this run stays as it is. */
    int answer(String words) {
        return Call.of(words).on(again().x);
    }

    /** All letters come behind the text. */
    Run tell(String text) {
        for (int i = 0; i < text.length(); i++) {
            make("feed " + (int) text.charAt(i));
        }
        return this;
    }

    /** The text is told and has this fault: it is empty then, and all else is as it was. */
    Run faulty(String text, int number, int letter) {
        List<Call> before = new ArrayList<>(calls);
        tell(text);
        String words = "tin() of '" + text + "'";
        Check.due(sentence + " | " + words, make("tin"), -10 - number);
        Check.due(sentence + " | fault() of '" + text + "'", make("fault"), letter);
        checkSame(words + " leaves all as it was", before, calls, false);
        return this;
    }

    /** Each of these calls is tried from here, alone: if it is refused, or `always`, all is as it was. How many were looked at. */
    int changeNothing(List<String> all, boolean always) {
        List<List<Call>> probes = new ArrayList<>(PROBES);
        probes.add(List.of(Call.of("fault")));
        List<int[]> want = new ArrayList<>();
        for (List<Call> probe : probes) {
            want.add(answers(calls, probe));
        }
        int looked = 0;
        for (String words : all) {
            if (always || isRefusal(answer(words))) {
                looked++;
                List<Call> with = new ArrayList<>(calls);
                with.add(Call.of(words));
                for (int i = 0; i < probes.size(); i++) {
                    int at = Arrays.mismatch(want.get(i), answers(with, probes.get(i)));
                    Check.due(at < 0 ? words : label(words + " changes what is seen by " + probes.get(i).get(at)), at, NONE);
                }
            }
        }
        return looked;
    }

    /** From now on it is as in that other run, whatever is asked. */
    Run same(String what, Run other) {
        checkSame(what, other.calls, calls, true);
        return this;
    }

    private void checkSame(String what, List<Call> one, List<Call> other, boolean faultToo) {
        // a text with a fault leaves all as it was but for fault() itself
        if (faultToo) {
            checkSameAnswers(what, one, other, List.of(Call.of("fault")));
        }
        for (List<Call> probe : PROBES) {
            checkSameAnswers(what, one, other, probe);
        }
    }

    private void checkSameAnswers(String what, List<Call> one, List<Call> other, List<Call> probe) {
        int[] want = answers(one, probe);
        int[] got = answers(other, probe);
        int at = Arrays.mismatch(want, got);
        Check.due(at < 0 ? what : label(what + ", seen by " + probe.get(at)), at < 0 ? 0 : got[at], at < 0 ? 0 : want[at]);
    }

    private static int[] answers(List<Call> before, List<Call> probe) {
        ButtonTin y = new ButtonTin();
        for (Call call : before) {
            call.on(y);
        }
        int[] answers = new int[probe.size()];
        for (int i = 0; i < answers.length; i++) {
            answers[i] = probe.get(i).on(y);
        }
        return answers;
    }

    /** Each is asked of an object of its own, so that it may change what it looks at. */
    private static final List<List<Call>> PROBES = List.of(looks(), tries(), pasts(), drawn(), returned(0), returned(1), texts(), books());

    private static void add(List<Call> list, String name, int to, int parts) {
        for (int i = 0; i < to; i++) {
            for (int part = 0; part < parts; part++) {
                list.add(new Call(name, i, part));
            }
        }
    }

    private static List<Call> looks() {
        List<Call> list = new ArrayList<>();
        add(list, "told", 16, 1);
        add(list, "button", 12, 8);
        add(list, "rule", 6, 5);
        add(list, "cause", 5, 4);
        add(list, "need", 5, 2);
        add(list, "heap", 6, 1);
        list.add(new Call("judge", 0, 0));
        return list;
    }

    private static List<Call> tries() {
        List<Call> list = new ArrayList<>();
        for (int h = 0; h < 6; h++) {
            list.add(new Call("fit", h, NONE));
            list.add(new Call("fit", h, 1));
            list.add(new Call("tells", h, 0));
        }
        for (String words : List.of("teach 0", "teach 42", "teach 119", "load 1", "load 9", "load 25", "alike NONE", "alike 0", "child 3")) {
            list.add(Call.of(words));
        }
        for (int n = -2; n < 5; n++) {
            list.add(new Call("match", n, 0));
        }
        add(list, "slips", 12, 5);
        add(list, "undid", 12, 3);
        add(list, "change", 12, 1);
        return list;
    }

    private static List<Call> moved() {
        List<Call> list = new ArrayList<>();
        add(list, "heap", 6, 1);
        for (int what = 6; what < 10; what++) {
            list.add(new Call("told", what, 0));
        }
        for (int b = 0; b < 12; b++) {
            list.add(new Call("button", b, 3));
        }
        for (int r = 0; r < 6; r++) {
            list.add(new Call("rule", r, 4));
        }
        for (int n = 0; n < 5; n++) {
            list.add(new Call("need", n, 1));
        }
        return list;
    }

    private static List<Call> pasts() {
        List<Call> list = new ArrayList<>();
        for (int i = 0; i < 17; i++) {
            list.add(new Call("undo", 0, 0));
            list.addAll(moved());
        }
        return list;
    }

    private static List<Call> drawn() {
        List<Call> list = new ArrayList<>(List.of(new Call("drift", 5, 0)));
        list.addAll(moved());
        list.add(new Call("seed", 0, 0));
        return list;
    }

    private static List<Call> returned(int image) {
        List<Call> list = new ArrayList<>(List.of(new Call("goBack", image, 0)));
        list.addAll(moved());
        list.add(new Call("seed", 0, 0));
        return list;
    }

    private static List<Call> texts() {
        List<Call> list = new ArrayList<>(List.of(new Call("tin", 0, 0), new Call("fault", 0, 0)));
        list.addAll(looks());
        return list;
    }

    private static List<Call> books() {
        List<Call> list = new ArrayList<>();
        for (int h = 0; h < 6; h++) {
            for (int b = 0; b < 12; b++) {
                list.add(new Call("put", b, h));
                list.add(new Call("judge", 0, 0));
            }
        }
        list.add(new Call("tear", 0, 0));
        return list;
    }
}
