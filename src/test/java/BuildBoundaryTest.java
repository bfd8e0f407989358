import java.util.Arrays;
import java.util.function.ToIntFunction;

/** The boundary cases of promises 1 to 5, each on its own: building, taking down, coordinates. */
public final class BuildBoundaryTest {
    private static final int[] TOO_SMALL = {-16, -18, -256, -65536, Integer.MIN_VALUE + 2,
        Integer.MIN_VALUE};
    private static final int[] TOO_LARGE = {16, 18, 28, 256, 65536, 1 << 30,
        Integer.MAX_VALUE - 13, Integer.MAX_VALUE - 1};
    private static final int[] ODD = {-13, -11, -1, 1, 3, 13};
    private static final int[] ODD_AND_OUTSIDE = {-15, 15, -17, 17, 257, -65535,
        Integer.MIN_VALUE + 1, Integer.MAX_VALUE};

    public static void main(String[] args) {
        newObject();
        wallOutsideThePlane();
        wallAtOddPoints();
        wallOfOnePoint();
        badBeforeFull();
        badBeforeCrosses();
        fullBeforeCrosses();
        fullAtTen();
        crossesEachWall();
        numberOfTheWall();
        unbuildWithoutWalls();
        unbuildHighest();
        wallsFromNoneToTen();
        coordinatesAsHandedOver();
        coordinateOfNoWall();
        coordinateOfNoKind();
        Due.end();
    }

    private static void newObject() {
        Due.about("Promise 1: No wall; the viewpoint is (1, 1).");
        WallBsp b = Scene.NEW.made();
        Due.is("walls()", b.walls(), 0);
        Due.is("viewpoint()", b.viewpoint(), 15 * 32 + 15);
        Due.is("openRays()", b.openRays(), 64);
        Due.is("the first wall", b.wall(-14, -14, -14, 14), 0);
    }

    private static ToIntFunction<WallBsp> building(int... w) {
        return b -> b.wall(w[0], w[1], w[2], w[3]);
    }

    /** The wrong coordinate in each of the four places, the others being right. */
    private static void badInEachPlace(int[] wrongs) {
        for (int wrong : wrongs) {
            for (int place = 0; place < 4; place++) {
                int[] w = {-14, 14, -12, 12};
                w[place] = wrong;
                Refused.everywhere("wall" + Arrays.toString(w), building(w), WallBsp.BAD_ARG);
            }
        }
    }

    private static void wallOutsideThePlane() {
        Due.about("Promise 2: a coordinate not -14 to 14 answers BAD_ARG (too small)");
        badInEachPlace(TOO_SMALL);
        Due.about("Promise 2: a coordinate not -14 to 14 answers BAD_ARG (too large)");
        badInEachPlace(TOO_LARGE);
    }

    private static void wallAtOddPoints() {
        Due.about("Promise 2: a coordinate not even answers BAD_ARG");
        badInEachPlace(ODD);
        badInEachPlace(ODD_AND_OUTSIDE);
        Refused.everywhere("wall(1, 3, 5, 7)", building(1, 3, 5, 7), WallBsp.BAD_ARG);
    }

    private static void wallOfOnePoint() {
        Due.about("Promise 2: the two points the same answers BAD_ARG");
        for (int x = -14; x <= 14; x += 14) {
            for (int y = -14; y <= 14; y += 14) {
                Refused.everywhere("wall of (" + x + ", " + y + ")", building(x, y, x, y),
                        WallBsp.BAD_ARG);
            }
        }
    }

    private static void badBeforeFull() {
        Due.about("Promise 2: Tested in this order: BAD_ARG; FULL");
        Refused.in(Scene.TEN, "outside", building(-14, -14, -14, 16), WallBsp.BAD_ARG);
        Refused.in(Scene.TEN, "odd", building(-14, -14, -13, 14), WallBsp.BAD_ARG);
        Refused.in(Scene.TEN, "one point", building(-14, 2, -14, 2), WallBsp.BAD_ARG);
    }

    private static void badBeforeCrosses() {
        Due.about("Promise 2: Tested in this order: BAD_ARG; CROSSES");
        Refused.in(Scene.ONE, "outside", building(-16, 0, 16, 0), WallBsp.BAD_ARG);
        Refused.in(Scene.ONE, "odd", building(3, 0, 5, 0), WallBsp.BAD_ARG);
        Refused.in(Scene.ONE, "one point of a wall", building(4, 0, 4, 0), WallBsp.BAD_ARG);
        Refused.in(Scene.ONE, "an end point", building(4, 14, 4, 14), WallBsp.BAD_ARG);
        Refused.in(Scene.TEN, "one point of a wall", building(14, 14, 14, 14), WallBsp.BAD_ARG);
        Refused.in(Scene.TEN, "odd across walls", building(14, -14, 14, 13), WallBsp.BAD_ARG);
    }

    private static void fullBeforeCrosses() {
        Due.about("Promise 2: Tested in this order: FULL; CROSSES");
        Refused.in(Scene.TEN, "across walls", building(14, -14, 14, 14), WallBsp.FULL);
        Refused.in(Scene.TEN, "a wall again", building(8, 12, 8, 14), WallBsp.FULL);
        Refused.in(Scene.NINE, "across walls", building(14, -14, 14, 14), WallBsp.CROSSES);
        Refused.in(Scene.NINE_OF_TEN, "across walls", building(14, -14, 14, 14), WallBsp.CROSSES);
    }

    private static void fullAtTen() {
        Due.about("FULL = -2: There are 10 walls.");
        Refused.in(Scene.TEN, "an eleventh wall", building(-14, -14, -14, 14), -2);
        WallBsp b = Scene.TEN.made();
        Due.is("unbuild()", b.unbuild(), 9);
        Due.is("a tenth wall", b.wall(-14, -14, -14, 14), 9);
        Due.is("an eleventh wall", b.wall(-12, -14, -12, 14), WallBsp.FULL);
    }

    private static void crossesEachWall() {
        Due.about("CROSSES = -3: The wall would have a point in common with another one.");
        int[][] across = {{6, -12, 10, -12}, {14, -12, 10, -14}, {10, -6, 14, -8}, {10, -4, 12, -2},
            {14, -2, 14, 0}, {14, 4, 12, 6}, {10, 6, 14, 6}, {10, 10, 14, 10}, {12, 14, 14, 14}};
        for (int n = 0; n < across.length; n++) {
            Refused.in(Scene.NINE, "across wall " + n, building(across[n]), -3);
        }
        Due.is("across a wall taken down", Scene.NINE_OF_TEN.made().wall(6, 12, 8, 14), 9);
        Due.is("across walls taken down", Scene.EMPTIED.made().wall(-14, 0, 14, 0), 0);
        crossesNoMore();
    }

    /** Only the last of the walls is in the way, so that it must be looked at, until it is down. */
    private static void crossesNoMore() {
        WallBsp b = Scene.NINE.made();
        Due.is("across wall 8", b.wall(12, 14, 14, 14), WallBsp.CROSSES);
        Due.is("unbuild()", b.unbuild(), 8);
        Due.is("where wall 8 was", b.wall(12, 14, 14, 14), 8);
        Due.is("where wall 8 was, again", b.wall(12, 14, 14, 14), WallBsp.CROSSES);
    }

    private static void numberOfTheWall() {
        Due.about("Promise 2: Otherwise its number.");
        for (Scene scene : Scene.all()) {
            if (scene.standing < 10) {
                WallBsp b = scene.made();
                Due.is("wall with " + scene, b.wall(-14, -12, -14, 14), scene.standing);
                Due.is("walls() with " + scene, b.walls(), scene.standing + 1);
            }
        }
    }

    private static void unbuildWithoutWalls() {
        Due.about("Promise 3: NONE if there is none.");
        Refused.in(Scene.NEW, "unbuild()", WallBsp::unbuild, WallBsp.NONE);
        Refused.in(Scene.EMPTIED, "unbuild()", WallBsp::unbuild, WallBsp.NONE);
        WallBsp b = Scene.ONE.made();
        Due.is("unbuild() of the only wall", b.unbuild(), 0);
        Due.is("unbuild() after it", b.unbuild(), WallBsp.NONE);
        Due.is("unbuild() once more", b.unbuild(), WallBsp.NONE);
        Due.is("the next wall", b.wall(0, 0, 2, 2), 0);
    }

    private static void unbuildHighest() {
        Due.about("Promise 3: Takes down the wall with the highest number."
                + " Otherwise the number it had.");
        WallBsp b = Scene.TEN.made();
        Due.is("unbuild() of ten", b.unbuild(), 9);
        Due.that("one of ten taken down leaves what nine are",
                Arrays.equals(Scene.answers(b), Scene.answers(Scene.NINE.made())));
        for (int n = 8; n >= 0; n--) {
            Due.is("unbuild()", b.unbuild(), n);
            Due.is("its x", b.coordinate(n, 0), WallBsp.NONE);
        }
        Due.is("openRays() without walls", b.openRays(), 64);
    }

    private static void wallsFromNoneToTen() {
        Due.about("Promise 4: The number of walls.");
        WallBsp b = new WallBsp();
        for (int n = 0; n < 10; n++) {
            Due.is("walls() with " + n, b.walls(), n);
            b.wall(2 * n - 14, -14, 2 * n - 14, 14);
        }
        Due.is("walls() with ten", b.walls(), 10);
        b.wall(12, -14, 12, 14);
        Due.is("walls() after one too many", b.walls(), 10);
    }

    private static void coordinatesAsHandedOver() {
        Due.about("Promise 5: k = 0 to 3 for x, y, u, v as handed over.");
        int[][] walls = {{-14, 14, 14, -12}, {14, -14, -14, 12}};
        for (int[] w : walls) {
            WallBsp b = Scene.of(w).made();
            for (int k = 0; k < 4; k++) {
                Due.is("coordinate(0, " + k + ") of " + Arrays.toString(w), b.coordinate(0, k),
                        w[k]);
            }
        }
        WallBsp ten = Scene.TEN.made();
        Due.is("coordinate(9, 0)", ten.coordinate(9, 0), 8);
        Due.is("coordinate(9, 3)", ten.coordinate(9, 3), 14);
    }

    private static void coordinateOfNoWall() {
        Due.about("Promise 5: NONE if there is no wall n; else");
        int[] ks = {0, 3, -1, 4, Integer.MIN_VALUE, Integer.MAX_VALUE};
        for (Scene scene : Scene.all()) {
            int[] ns = {-1, scene.standing, 10, 11, -100, 256, Integer.MIN_VALUE,
                Integer.MAX_VALUE};
            for (int n : ns) {
                for (int k : ks) {
                    Refused.in(scene, "coordinate(" + n + ", " + k + ")",
                            b -> b.coordinate(n, k), WallBsp.NONE);
                }
            }
        }
    }

    private static void coordinateOfNoKind() {
        Due.about("Promise 5: -100 if k is not 0 to 3.");
        int[] ks = {-1, 4, 5, -4, 256, 65536, 1 << 30, Integer.MIN_VALUE, Integer.MAX_VALUE};
        for (int k : ks) {
            Refused.in(Scene.ONE, "coordinate(0, " + k + ")", b -> b.coordinate(0, k), -100);
            Refused.in(Scene.TEN, "coordinate(0, " + k + ")", b -> b.coordinate(0, k), -100);
            Refused.in(Scene.TEN, "coordinate(9, " + k + ")", b -> b.coordinate(9, k), -100);
        }
    }
}
