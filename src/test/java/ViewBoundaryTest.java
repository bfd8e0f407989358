import java.util.Arrays;

/** The boundary cases of promises 6 and 7, each on its own: the viewpoint. */
public final class ViewBoundaryTest {
    private static final int[] TOO_SMALL = {-15, -17, -257, -65537, Integer.MIN_VALUE + 1};
    private static final int[] TOO_LARGE = {15, 17, 257, 65537, Integer.MAX_VALUE - 14,
        Integer.MAX_VALUE};
    private static final int[] EVEN = {-14, -12, -2, 0, 2, 12, 14};
    private static final int[] EVEN_AND_OUTSIDE = {-16, 16, 256, 65536, Integer.MIN_VALUE,
        Integer.MAX_VALUE - 1};

    public static void main(String[] args) {
        tooSmall();
        tooLarge();
        even();
        smallestAndLargest();
        samePointAgain();
        ontoAWall();
        wallsStay();
        viewpointAtTheCorners();
        Due.end();
    }

    /** The other coordinate is a good one, and not the one that stands: it must not move either. */
    private static void refused(int[] wrongs) {
        for (int wrong : wrongs) {
            Refused.everywhere("look(" + wrong + ", 13)", b -> b.look(wrong, 13), WallBsp.BAD_ARG);
            Refused.everywhere("look(13, " + wrong + ")", b -> b.look(13, wrong), WallBsp.BAD_ARG);
            Refused.everywhere("look(" + wrong + ", " + wrong + ")", b -> b.look(wrong, wrong),
                    WallBsp.BAD_ARG);
        }
    }

    private static void tooSmall() {
        Due.about("Promise 6: BAD_ARG if a coordinate is not -14 to 14 (too small)");
        refused(TOO_SMALL);
    }

    private static void tooLarge() {
        Due.about("Promise 6: BAD_ARG if a coordinate is not -14 to 14 (too large)");
        refused(TOO_LARGE);
    }

    private static void even() {
        Due.about("Promise 6: BAD_ARG if a coordinate is not odd");
        refused(EVEN);
        refused(EVEN_AND_OUTSIDE);
    }

    private static void smallestAndLargest() {
        Due.about("Promise 6: Moves the viewpoint; otherwise 0.");
        int[] ends = {-13, 13};
        for (Scene scene : Scene.all()) {
            for (int x : ends) {
                for (int y : ends) {
                    WallBsp b = scene.made();
                    Due.is("look(" + x + ", " + y + ")", b.look(x, y), 0);
                    Due.is("viewpoint() after it", b.viewpoint(), 32 * x + y + 14 * 33);
                }
            }
        }
    }

    private static void samePointAgain() {
        Due.about("Promise 6: otherwise 0 (where it stands already)");
        WallBsp b = new WallBsp();
        Due.is("look(1, 1)", b.look(1, 1), 0);
        Due.is("look(1, 1) again", b.look(1, 1), 0);
        Due.is("viewpoint()", b.viewpoint(), 495);
    }

    private static void ontoAWall() {
        Due.about("Promise 6: otherwise 0 (on a wall)");
        WallBsp b = Scene.of(new int[] {-14, -14, 14, 14}).made();
        Due.is("look(13, 13)", b.look(13, 13), 0);
        Due.is("viewpoint()", b.viewpoint(), 891);
        Due.is("look(-13, -13)", b.look(-13, -13), 0);
        Due.is("viewpoint()", b.viewpoint(), 33);
    }

    private static void wallsStay() {
        Due.about("Promise 6: Moves the viewpoint (and nothing else).");
        WallBsp b = Scene.TEN.made();
        int[] before = Scene.answers(b);
        Due.is("look(13, 13)", b.look(13, 13), 0);
        Due.is("walls()", b.walls(), 10);
        Due.is("coordinate(9, 0)", b.coordinate(9, 0), 8);
        Due.is("look(-13, 1)", b.look(-13, 1), 0);
        Due.that("there and back is as it was", Arrays.equals(before, Scene.answers(b)));
    }

    private static void viewpointAtTheCorners() {
        Due.about("Promise 7: The viewpoint as (x + 14) * 32 + y + 14.");
        int[][] points = {{-13, -13, 33}, {-13, 13, 59}, {13, -13, 865}, {13, 13, 891},
            {-1, 1, 431}, {1, -1, 493}};
        for (int[] point : points) {
            WallBsp b = new WallBsp();
            b.look(point[0], point[1]);
            Due.is("viewpoint() at (" + point[0] + ", " + point[1] + ")", b.viewpoint(), point[2]);
        }
        Due.is("viewpoint() of a new object", new WallBsp().viewpoint(), 495);
    }
}
