import java.lang.reflect.Constructor;
import java.lang.reflect.Field;
import java.lang.reflect.Method;
import java.lang.reflect.Modifier;
import java.util.Map;
import java.util.TreeMap;
import java.util.TreeSet;

/** The public face: the constants, the constructor and the methods, and no other visible member. */
public final class FaceTest {
    public static void main(String[] args) throws IllegalAccessException {
        Due.that("the class is public and final",
                WallBsp.class.getModifiers() == (Modifier.PUBLIC | Modifier.FINAL));
        Due.that("no nested class", WallBsp.class.getDeclaredClasses().length == 0);
        constants();
        constructors();
        methods();
        Due.end();
    }

    private static void constants() throws IllegalAccessException {
        Map<String, Integer> want = new TreeMap<>(
                Map.of("BAD_ARG", -1, "FULL", -2, "CROSSES", -3, "NONE", -4));
        Map<String, Integer> got = new TreeMap<>();
        for (Field field : WallBsp.class.getDeclaredFields()) {
            if (Modifier.isPrivate(field.getModifiers())) {
                continue;
            }
            int constant = Modifier.PUBLIC | Modifier.STATIC | Modifier.FINAL;
            Due.that(field + " is a public int constant",
                    field.getModifiers() == constant && field.getType() == int.class);
            got.put(field.getName(), field.getInt(null));
        }
        Due.that("the visible fields are " + want + ", not " + got, want.equals(got));
    }

    private static void constructors() {
        Constructor<?>[] all = WallBsp.class.getDeclaredConstructors();
        Due.that("one public constructor without parameters", all.length == 1
                && all[0].getParameterCount() == 0 && Modifier.isPublic(all[0].getModifiers()));
    }

    private static void methods() {
        Map<String, Integer> want = new TreeMap<>(Map.of("wall", 4, "unbuild", 0, "walls", 0,
                "coordinate", 2, "look", 2, "viewpoint", 0, "seen", 2, "depth", 2, "share", 1,
                "openRays", 0));
        want.put("visible", 1);
        want.put("edge", 1);
        Map<String, Integer> got = new TreeMap<>();
        TreeSet<String> hidden = new TreeSet<>();
        for (Method method : WallBsp.class.getDeclaredMethods()) {
            if (Modifier.isPrivate(method.getModifiers())) {
                hidden.add(method.getName());
                continue;
            }
            Due.that(method + " is public and answers an int",
                    method.getModifiers() == Modifier.PUBLIC
                            && method.getReturnType() == int.class);
            for (Class<?> type : method.getParameterTypes()) {
                Due.that(method + " takes ints alone", type == int.class);
            }
            got.put(method.getName(), method.getParameterCount());
        }
        Due.that("the visible methods are " + want + ", not " + got, want.equals(got));
        hidden.retainAll(want.keySet());
        Due.that("no private method bears a public name: " + hidden, hidden.isEmpty());
    }
}
