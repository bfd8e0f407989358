import java.util.Arrays;
import java.util.function.ToIntFunction;

/** That a call is refused with the code named, and changes nothing. */
final class Refused {
    private Refused() {
    }

    static void everywhere(String call, ToIntFunction<WallBsp> asked, int code) {
        for (Scene scene : Scene.all()) {
            in(scene, call, asked, code);
        }
    }

    /** The object is compared with a twin that never had the refused call. */
    static void in(Scene scene, String call, ToIntFunction<WallBsp> asked, int code) {
        String where = call + " with " + scene;
        WallBsp b = scene.made();
        WallBsp twin = scene.made();
        Due.is(where, asked.applyAsInt(b), code);
        Due.that("nothing has changed after " + where,
                Arrays.equals(Scene.answers(b), Scene.answers(twin)));
        Due.that("all goes on as before after " + where, Arrays.equals(goOn(b), goOn(twin)));
    }

    /** Calls that would bring to light what a refused call had left behind unseen. */
    private static int[] goOn(WallBsp b) {
        int[] first = {b.unbuild(), b.wall(-14, -12, -14, 14), b.wall(-4, -14, 4, -14),
            b.look(-3, -5)};
        int[] all = Arrays.copyOf(first, first.length + Scene.ANSWERS);
        System.arraycopy(Scene.answers(b), 0, all, first.length, Scene.ANSWERS);
        return all;
    }
}
