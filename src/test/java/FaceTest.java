import java.lang.reflect.Constructor;
import java.lang.reflect.Field;
import java.lang.reflect.Method;
import java.lang.reflect.Modifier;
import java.util.Arrays;
import java.util.List;
import java.util.TreeMap;

/** The class has the document's face and no more of it (LANGUAGE.md, 1, 2, 5, 11). */
public final class FaceTest {
    /** The calls of the document with how many numbers each takes. */
    static final List<String> CALLS = List.of(
        "feed 1", "tin 0", "fault 0", "told 1", "button 2", "rule 2", "cause 2", "need 2", "heap 1",
        "put 2", "takeBack 1", "sort 0", "sew 2", "unpick 1", "pull 1", "up 1", "drift 1", "undo 0",
        "fit 2", "tells 1", "teach 1", "match 1", "load 1", "slips 2", "undid 2", "change 1", "alike 1", "child 1",
        "write 2", "tear 0", "judge 0", "seed 1", "keep 1", "goBack 1");

    private static boolean isHidden(int modifiers) {
        return Modifier.isPrivate(modifiers);
    }

    private static void checkMethods() {
        TreeMap<String, Integer> face = new TreeMap<>();
        for (String call : CALLS) {
            face.put(call.split(" ")[0], Integer.parseInt(call.split(" ")[1]));
        }
        int seen = 0;
        for (Method method : ButtonTin.class.getDeclaredMethods()) {
            if (isHidden(method.getModifiers()) || method.isSynthetic()) {
                Check.holds(method.getName() + " bears no public name",
                    method.isSynthetic() || !face.containsKey(method.getName()));
                continue;
            }
            seen++;
            Class<?>[] takes = method.getParameterTypes();
            Check.holds(method + " is of the face", face.containsKey(method.getName())
                && face.get(method.getName()) == takes.length
                && Modifier.isPublic(method.getModifiers()) && !Modifier.isStatic(method.getModifiers())
                && method.getReturnType() == int.class
                && Arrays.stream(takes).allMatch(t -> t == int.class));
        }
        Check.due("methods of the face", seen, 34);
        Check.due("methods of the document", CALLS.size(), 34);
    }

    private static void checkFields(Class<?> inside) {
        int own = 0;
        for (Field field : inside.getDeclaredFields()) {
            int modifiers = field.getModifiers();
            if (Modifier.isStatic(modifiers)) {
                Check.holds(field + " is final", Modifier.isFinal(modifiers));
            } else if (!field.isSynthetic()) {
                own++;
            }
        }
        Check.holds(inside + " has at most twenty fields", own <= 20);
    }

    private static void checkConstants() throws Exception {
        int open = 0;
        for (Field field : ButtonTin.class.getDeclaredFields()) {
            if (!isHidden(field.getModifiers())) {
                open++;
            }
        }
        Check.due("constants of the face", open, 5);
        Check.due("NONE", ButtonTin.class.getField("NONE").getInt(null), -1);
        Check.due("UNKNOWN", ButtonTin.class.getField("UNKNOWN").getInt(null), -1000000001);
        Check.due("OUTSIDE", ButtonTin.class.getField("OUTSIDE").getInt(null), -1000000002);
        Check.due("NOT", ButtonTin.class.getField("NOT").getInt(null), -1000000003);
        Check.due("FULL", ButtonTin.class.getField("FULL").getInt(null), -1000000004);
    }

    private static void checkClasses() {
        Class<?>[] inside = ButtonTin.class.getDeclaredClasses();
        Check.holds("at most twelve classes", inside.length < 12);
        for (Class<?> one : inside) {
            Check.holds(one + " is static", Modifier.isStatic(one.getModifiers()));
            Check.holds(one + " is not public", !Modifier.isPublic(one.getModifiers())
                && !Modifier.isProtected(one.getModifiers()));
            checkFields(one);
        }
        checkFields(ButtonTin.class);
    }

    public static void main(String[] args) throws Exception {
        Check.holds("the class is public and final", Modifier.isPublic(ButtonTin.class.getModifiers())
            && Modifier.isFinal(ButtonTin.class.getModifiers()));
        Constructor<?>[] made = ButtonTin.class.getDeclaredConstructors();
        Check.due("constructors", made.length, 1);
        Check.holds("the constructor is public and takes nothing",
            Modifier.isPublic(made[0].getModifiers()) && made[0].getParameterCount() == 0);
        checkMethods();
        checkConstants();
        checkClasses();
        Check.finish();
    }
}
