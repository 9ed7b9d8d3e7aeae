import java.util.ArrayList;
import java.util.List;

/**
 * "What is refused changes nothing", and "TRIED from now; nothing changes by it": each call with numbers at, within and
 * beyond all bounds, in states in which there is much to be changed.
 */
public final class RefusalTest {
    private static final String[] NUMBERS = {"MIN", "-1000000001", "-3", "-2", "-1", "0", "1", "2", "3", "4", "5", "6", "7", "8", "11", "12", "15", "16",
        "60", "61", "119", "120", "255", "256", "999", "1000", "MAX"};
    private static final String[] FEWER = {"MIN", "-2", "-1", "0", "1", "2", "3", "4", "5", "6", "7", "8", "12", "MAX"};
    private static final List<String> DOING = List.of("feed 1", "put 2", "takeBack 1", "sort 0", "sew 2", "unpick 1", "pull 1", "up 1", "drift 1", "undo 0",
        "write 2", "seed 1", "keep 1", "goBack 1");
    private static final List<String> LOOKING = List.of("fault 0", "told 1", "button 2", "rule 2", "cause 2", "need 2", "heap 1",
        "fit 2", "tells 1", "teach 1", "match 1", "load 1", "slips 2", "undid 2", "change 1", "alike 1", "child 1", "judge 0");

    /** Each call with each of the numbers, or two of them. */
    private static List<String> withNumbers(List<String> calls) {
        List<String> all = new ArrayList<>();
        for (String call : calls) {
            String name = call.substring(0, call.length() - 2);
            if (call.endsWith("0")) {
                all.add(name);
            } else if (call.endsWith("1")) {
                for (String a : NUMBERS) {
                    all.add(name + " " + a);
                }
            } else {
                for (String a : FEWER) {
                    for (String b : FEWER) {
                        all.add(name + " " + a + " " + b);
                    }
                }
            }
        }
        return all;
    }

    /** With thread: one in heap 2, one sewn, one at the edge, one in the tin; and one in the tin without. */
    private static Run rich(String name) {
        return new Run(name, "t40;b1 5 0 1;b2 4 1 1;b0 9 2 1;b4 4 3 1;b4 9 4 0;r2 0 0 0;r2 0 4 1;r0 0 4 5;u0 9 2 1;u1 1 1 1;n6;n9;n0;")
            .does("seed 12", "put 1 1", "keep 0", "up 2", "put 4 3", "seed 34", "keep 1", "seed 56", "takeBack 1", "takeBack 4", "put 0 2", "sew 1 0",
                "put 3 4", "put 4 4", "sort", "takeBack 3", "takeBack 4");
    }

    private static List<Run> states() {
        List<Run> states = new ArrayList<>();
        states.add(new Run("a new object"));
        states.add(new Run("no TIN, but for a seed, an image, a text").does("seed 5", "keep 0", "seed 6").tell("t1;b0 1 0 0;"));
        states.add(new Run("no BUTTONS", "t5;r0 0 0 0;n3;u0 1 0 0;").does("seed 5", "keep 1", "drift 1").tell("t1;"));
        states.add(new Run("no RULES, CAUSES, NEEDS, IMAGES", "t5;b0 9 0 1;b0 9 0 0;").does("put 0 2", "write 0 2", "put 1 0", "seed 3"));
        Run rich = rich("much of all").does("write 0 2", "write 1 NONE", "write 2 NONE").tell("t9;b0 1 0 0;n7;");
        states.add(rich);
        Run full = rich("THE BOOK, what can be undone is full");
        for (int i = 0; i < 15; i++) {
            full.does(i % 3 == 0 ? "write 0 2" : "write " + i % 3 + " NONE").does("pull 0", "undo").does("put 3 " + i % 6);
        }
        states.add(full.does("takeBack 3", "put 3 0", "takeBack 3"));
        Run text = rich("THE TEXT is full").tell("t9;b0 1 0 0;n7;" + " ".repeat(222) + "n8;");
        states.add(text);
        states.add(new Run("all SEWN", "t9;b4 9 0 1;b4 9 0 0;r0 0 4 0;n3;n4;").does("seed 8", "write 0 NONE", "sew 0 1", "sew 1 0"));
        Run fault = rich("behind a FAULT").tell("t9;x").due("tin", -11).tell("t1;");
        states.add(fault);
        return states;
    }

    public static void main(String[] args) {
        List<String> doing = withNumbers(DOING);
        List<String> looking = withNumbers(LOOKING);
        for (Run state : states()) {
            Check.holds("many calls are refused", state.changeNothing(doing, false) > 200);
            Check.due("calls that change nothing", state.changeNothing(looking, true), looking.size());
        }
        Check.finish();
    }
}
