import java.lang.reflect.Method;
import java.util.HashMap;
import java.util.Map;
import java.util.Random;

/** Many runs of calls by draws of fixed seeds: ButtonTin answers as PlainTin, call by call. */
public final class ModelTest {
    private static final Map<String, Method> OURS = new HashMap<>();
    private static final Map<String, Method> PLAIN = new HashMap<>();
    private static final String[] DOINGS = {"put", "put", "put", "takeBack", "sort", "sew", "sew", "sew", "unpick",
        "unpick", "pull", "up", "up", "drift", "undo", "undo", "keep", "goBack", "seed", "write", "write"};
    private static final String[] LOOKS = {"told", "button", "rule", "cause", "need", "heap", "fit", "tells", "teach",
        "match", "load", "slips", "undid", "change", "alike", "child", "judge", "judge", "tear", "fault"};

    private final Random random;
    private final ButtonTin ours = new ButtonTin();
    private final PlainTin plain = new PlainTin();
    private final StringBuilder run = new StringBuilder();
    private int calls;

    ModelTest(long seed) {
        random = new Random(seed);
        run.append("run ").append(seed).append(':');
    }

    private int between(int low, int high) {
        return low + random.nextInt(high - low + 1);
    }

    private void call(String name, int a, int b) throws Exception {
        if (calls >= 512) {
            return;
        }
        calls++;
        Method mine = OURS.get(name);
        Object[] with = mine.getParameterCount() == 0 ? new Object[0]
            : mine.getParameterCount() == 1 ? new Object[] {a} : new Object[] {a, b};
        run.append(' ').append(name).append(java.util.Arrays.toString(with));
        int got = (Integer) mine.invoke(ours, with);
        int want = (Integer) PLAIN.get(name).invoke(plain, with);
        Check.due(got == want ? name : run.toString(), got, want);
    }

    private String text(int most) {
        StringBuilder text = new StringBuilder("t").append(random.nextInt(3) == 0 ? between(0, 100) : between(0, 40)).append(';');
        int wide = random.nextInt(3);
        for (int i = between(random.nextInt(10) == 0 ? 0 : most / 2, most); i > 0; i--) {
            text.append(marks('b', wide));
        }
        for (int i = between(0, 6); i > 0; i--) {
            int m = between(0, 3);
            text.append('r').append(m).append(' ').append(between(0, 2)).append(' ').append(between(0, m == 3 ? 2 : 9))
                .append(' ').append(between(0, 5)).append(';');
        }
        for (int i = between(0, 5); i > 0; i--) {
            text.append(marks('u', wide));
        }
        for (int i = between(0, 5); i > 0; i--) {
            text.append('n').append(between(0, random.nextInt(4) == 0 ? 99 : 25)).append(';');
        }
        return text.toString();
    }

    private String marks(char word, int wide) {
        int high = wide == 0 ? 1 : wide == 1 ? 2 : 9;
        return word + "" + between(0, Math.min(4, high)) + ' ' + between(1, Math.min(9, high + 1)) + ' '
            + between(0, Math.min(5, high)) + ' ' + between(0, 1) + ';';
    }

    private void tell(String text) throws Exception {
        for (int i = 0; i < text.length(); i++) {
            call("feed", text.charAt(i), 0);
        }
        call("tin", 0, 0);
        call("fault", 0, 0);
    }

    private static final int[] WILD = {Integer.MIN_VALUE, Integer.MIN_VALUE + 1, -1000000004, -1000000001, -65536, -256, -32, -3, -2,
        16, 31, 32, 33, 63, 64, 120, 255, 256, 4095, 65536, 1 << 30, Integer.MAX_VALUE - 1, Integer.MAX_VALUE};

    /** Mostly one of those that there are, at times one of the two that are just beyond, or one that is far. */
    private int known(int many) {
        if (random.nextInt(40) == 0) {
            return WILD[random.nextInt(WILD.length)];
        }
        return many == 0 || random.nextInt(12) == 0 ? random.nextInt(2) == 0 ? -1 : many : random.nextInt(many);
    }

    private void act(String name) throws Exception {
        int button = known(plain.told(1));
        int heap = known(6);
        int need = known(plain.told(4));
        switch (name) {
            case "put" -> call(name, button, heap);
            case "write" -> call(name, button, random.nextInt(3) == 0 ? -1 : random.nextInt(20) == 0 ? -2 : heap);
            case "takeBack", "pull", "change" -> call(name, button, 0);
            case "sew" -> call(name, button, need);
            case "unpick" -> call(name, need, 0);
            case "up" -> call(name, known(plain.told(2)), 0);
            case "drift" -> call(name, random.nextInt(4) == 0 ? known(62) : between(1, 5), 0);
            case "keep", "goBack" -> call(name, known(2), 0);
            case "seed" -> call(name, random.nextInt(5) == 0 ? random.nextInt() : between(0, Integer.MAX_VALUE - 1), 0);
            case "told" -> call(name, known(16), 0);
            case "button" -> call(name, button, known(8));
            case "rule" -> call(name, known(plain.told(2)), known(5));
            case "cause" -> call(name, known(plain.told(3)), known(4));
            case "need" -> call(name, need, known(2));
            case "heap", "tells" -> call(name, heap, 0);
            case "fit" -> call(name, heap, random.nextInt(3) == 0 ? -1 : random.nextInt(20) == 0 ? known(1) : between(-2, random.nextInt(2) == 0 ? 5 : 60));
            case "teach" -> call(name, known(120), 0);
            case "match" -> call(name, random.nextInt(3) == 0 ? between(-3, -1) : need, 0);
            case "load" -> call(name, random.nextInt(6) == 0 ? known(1001) : between(1, 12 * plain.told(1) + 1), 0);
            case "slips" -> call(name, button, known(plain.told(3)));
            case "undid" -> call(name, button, known(3));
            case "alike" -> call(name, random.nextInt(10) == 0 ? known(1) : between(-2, 8), 0);
            case "child" -> call(name, known(61), 0);
            default -> call(name, 0, 0);
        }
    }

    /** On a quiet afternoon the tin is seldom emptied at once: more is left to match and to load. */
    private boolean isLeftOut(String name, boolean quiet) {
        return quiet && (name.equals("sort") || name.equals("drift") || name.equals("put")) && random.nextInt(8) != 0;
    }

    private void afternoon(int most, boolean quiet) throws Exception {
        tell(text(most));
        while (calls < 500) {
            if (random.nextInt(300) == 0) {
                tell(text(most));
            }
            if (random.nextInt(2000) == 0) {
                tell("  ");
            }
            String name = random.nextInt(2) == 0 ? DOINGS[random.nextInt(DOINGS.length)] : LOOKS[random.nextInt(LOOKS.length)];
            if (!isLeftOut(name, quiet)) {
                act(name);
            }
        }
        for (int what = 0; what < 16; what++) {
            call("told", what, 0);
        }
    }

    /** Texts with a slip in them: a letter changed, lost or doubled, the end cut off, words too many. */
    private void slippery() throws Exception {
        while (calls < 400) {
            StringBuilder text = new StringBuilder(text(2));
            for (int i = between(0, 3); i > 0; i--) {
                int at = random.nextInt(text.length() + 1);
                String signs = "tbrun;  0123456789xT\t" + (char) 200 + (char) 0;
                switch (random.nextInt(4)) {
                    case 0 -> text.insert(at, signs.charAt(random.nextInt(signs.length())));
                    case 1 -> text.delete(at, Math.min(text.length(), at + 1));
                    case 2 -> text.setLength(Math.max(1, at));
                    default -> text.insert(at, text.substring(at, Math.min(text.length(), at + 6)));
                }
            }
            tell(text.toString());
            call("told", between(0, 15), 0);
        }
    }

    public static void main(String[] args) throws Exception {
        for (Method method : ButtonTin.class.getMethods()) {
            OURS.put(method.getName(), method);
        }
        for (Method method : PlainTin.class.getDeclaredMethods()) {
            method.setAccessible(true);
            if (java.lang.reflect.Modifier.isPublic(method.getModifiers())) {
                PLAIN.put(method.getName(), method);
            }
        }
        int rounds = args.length > 0 ? Integer.parseInt(args[0]) : 3000;
        for (int i = 0; i < rounds; i++) {
            new ModelTest(i).afternoon(i % 20 == 0 ? 12 : i % 3 == 0 ? 9 : 5, i % 2 == 0);
            new ModelTest(1000000 + i).slippery();
        }
        Check.finish();
    }
}
