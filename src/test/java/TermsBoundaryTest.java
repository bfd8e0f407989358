import java.util.Arrays;

/** The boundary cases of the document's sections "What it is" and "Terms", each on its own. */
public final class TermsBoundaryTest {
    private static final int[] WIDE = {Integer.MIN_VALUE, Integer.MIN_VALUE + 1, -65536, -256, -101,
        -100, -17, -16, -15, -14, -4, -1, 0, 1, 3, 4, 9, 10, 13, 14, 15, 16, 256, 65536, 1 << 28,
        1 << 30, Integer.MAX_VALUE - 1, Integer.MAX_VALUE};

    public static void main(String[] args) {
        lastOf512Calls();
        cornersOfThePlane();
        shortestWalls();
        atMostTenWalls();
        numbersInOrder();
        endPointsBelongToWalls();
        noPointInCommon();
        firstAndLastRays();
        onlyAbove0();
        raysAlmostAlongAWall();
        raysBesideEndPoints();
        leastOfTwoClose();
        noCallThrows();
        askingChangesNothing();
        Due.end();
    }

    private static void lastOf512Calls() {
        Due.about("An object is used for at most 512 calls after it has been made");
        WallBsp builder = new WallBsp();
        for (int i = 0; i < 256; i++) {
            Due.is("wall, call " + (2 * i + 1), builder.wall(4, -14, 4, 14), 0);
            Due.is("unbuild(), call " + (2 * i + 2), builder.unbuild(), 0);
        }
        WallBsp full = Scene.TEN.made();
        for (int call = 12; call < 512; call++) {
            Due.is("wall, call " + call, full.wall(-14, -14, -14, 14), WallBsp.FULL);
        }
        Due.is("depth(0, 12), call 512", full.depth(0, 12), 64 * 21);
        WallBsp mover = new WallBsp();
        for (int call = 1; call < 512; call++) {
            int x = 2 * (call % 14) - 13;
            Due.is("look, call " + call, mover.look(x, -x), 0);
        }
        Due.is("viewpoint(), call 512", mover.viewpoint(), (1 + 14) * 32 - 1 + 14);
        WallBsp empty = new WallBsp();
        for (int call = 1; call < 512; call++) {
            Due.is("unbuild(), call " + call, empty.unbuild(), WallBsp.NONE);
        }
        Due.is("wall, call 512", empty.wall(4, -14, 4, 14), 0);
    }

    private static void cornersOfThePlane() {
        Due.about("POINTS have whole coordinates x, y from -14 to 14");
        int[] ends = {-14, 14};
        for (int x : ends) {
            for (int y : ends) {
                WallBsp b = new WallBsp();
                Due.is("the wall to (" + x + ", " + y + ")", b.wall(-x, -y, x, y), 0);
                Due.is("its x", b.coordinate(0, 0), -x);
                Due.is("its y", b.coordinate(0, 1), -y);
                Due.is("its u", b.coordinate(0, 2), x);
                Due.is("its v", b.coordinate(0, 3), y);
            }
        }
    }

    private static void shortestWalls() {
        Due.about("A WALL is a straight segment between two different points");
        for (int stepX = -2; stepX <= 2; stepX += 2) {
            for (int stepY = -2; stepY <= 2; stepY += 2) {
                int want = stepX == 0 && stepY == 0 ? WallBsp.BAD_ARG : 0;
                Due.is("a wall by (" + stepX + ", " + stepY + ")",
                        new WallBsp().wall(4, -6, 4 + stepX, -6 + stepY), want);
            }
        }
    }

    private static void atMostTenWalls() {
        Due.about("At most 10 walls stand");
        Due.is("the tenth wall", Scene.NINE.made().wall(-14, -14, -14, 14), 9);
        Due.is("the tenth wall again", Scene.NINE_OF_TEN.made().wall(-14, -14, -14, 14), 9);
        Refused.in(Scene.TEN, "the eleventh wall", b -> b.wall(-14, -14, -14, 14), WallBsp.FULL);
    }

    private static void numbersInOrder() {
        Due.about("numbered 0, 1, .. in the order in which they were built");
        int[] places = {4, -8, 14, 0, -14, 12, 2, -2, 8, -10};
        WallBsp b = new WallBsp();
        for (int n = 0; n < 10; n++) {
            Due.is("wall at " + places[n], b.wall(places[n], -14, places[n], 14), n);
        }
        for (int n = 0; n < 10; n++) {
            Due.is("coordinate(" + n + ", 0)", b.coordinate(n, 0), places[n]);
        }
    }

    /** Whichever of the two stands first, and whichever way each of them is handed over. */
    private static void crosses(int[] wall, int... other) {
        int[][] walls = {wall, {wall[2], wall[3], wall[0], wall[1]}};
        int[][] others = {other, {other[2], other[3], other[0], other[1]}};
        for (int[] w : walls) {
            for (int[] o : others) {
                crossesAfter(w, o);
                crossesAfter(o, w);
            }
        }
    }

    private static void crossesAfter(int[] first, int[] second) {
        Refused.in(Scene.of(first), "wall" + Arrays.toString(second),
                b -> b.wall(second[0], second[1], second[2], second[3]), WallBsp.CROSSES);
    }

    private static void endPointsBelongToWalls() {
        Due.about("its end points belong to it");
        int[] wall = {-4, 2, 8, 6};
        crosses(wall, -4, 2, -14, 14);
        crosses(wall, 8, 6, 14, -14);
        crosses(wall, 6, -14, 8, 6);
        crosses(wall, -4, 2, -10, 0);
        crosses(wall, 8, 6, 14, 8);
        crosses(wall, 2, 4, 2, 14);
        crosses(wall, -4, 14, -4, -14);
        crosses(wall, 14, 0, 2, 12);
    }

    /** As near as two walls can come without touching, and crossing between the points. */
    private static void noPointInCommon() {
        Due.about("no two have a point in common");
        int[] wall = {-14, -14, 14, 12};
        int[][] apart = {{-12, -12, 14, 14}, {-14, -12, 12, 12}, {-12, -14, 14, 10},
            {14, 14, -14, -12}};
        for (int[] other : apart) {
            WallBsp b = Scene.of(wall).made();
            Due.is("beside it " + Arrays.toString(other),
                    b.wall(other[0], other[1], other[2], other[3]), 1);
        }
        crosses(wall, 0, 0, 0, -2);
        crosses(wall, 0, 0, 2, -2);
        crosses(wall, -14, -14, 14, 12);
        crosses(new int[] {-14, 0, 14, 0}, 0, 0, 2, 0);
        crosses(new int[] {0, -14, 0, 2}, 0, 2, 0, 14);
        crosses(new int[] {-14, 14, 2, -2}, 0, 0, 14, -14);
        WallBsp onOneLine = Scene.of(new int[] {-14, 14, 0, 0}).made();
        Due.is("behind it on its line", onOneLine.wall(2, -2, 14, -14), 1);
    }

    /** The outermost and the middle columns, each look turned from look 0: (x, y) to (-y, x). */
    private static void firstAndLastRays() {
        Due.about("with s = 2 * column - 15 its direction is");
        int[] columns = {0, 7, 8, 15};
        int[][] walls = {{2, -12, 2, -10}, {14, -2, 14, 0}, {14, 2, 14, 4}, {2, 12, 2, 14}};
        int[] forward = {13, 25, 25, 13};
        for (int i = 0; i < columns.length; i++) {
            int[] w = walls[i];
            int[] view = {-11, 1};
            for (int look = 0; look < 4; look++) {
                WallBsp b = new WallBsp();
                b.wall(w[0], w[1], w[2], w[3]);
                b.look(view[0], view[1]);
                String ray = "(" + look + ", " + columns[i] + ")";
                Due.is("seen" + ray, b.seen(look, columns[i]), 0);
                Due.is("depth" + ray, b.depth(look, columns[i]), 64 * forward[i]);
                Due.is("share(0), seen in " + ray + " alone", b.share(0), 1);
                w = new int[] {-w[1], w[0], -w[3], w[2]};
                view = new int[] {-view[1], view[0]};
            }
        }
    }

    private static void onlyAbove0() {
        Due.about("viewpoint + t * direction for all real t > 0");
        for (int x = -13; x <= 13; x += 2) {
            for (int y = -13; y <= 13; y += 2) {
                wallThrough(x, y, 1);
                wallThrough(x, y, -1);
            }
        }
        WallBsp behind = new WallBsp();
        behind.wall(0, -14, 0, 14);
        Due.is("seen(0, 8) of a wall behind", behind.seen(0, 8), WallBsp.NONE);
        Due.is("depth(0, 8) of a wall behind", behind.depth(0, 8), WallBsp.NONE);
        Due.is("seen(2, 8) of the wall", behind.seen(2, 8), 0);
        WallBsp nearest = new WallBsp();
        nearest.wall(-14, -14, 4, 14);
        nearest.look(-7, -3);
        Due.is("depth(0, 0) at t = 2 / 718", nearest.depth(0, 0), 2);
        Due.is("seen(0, 0) at t = 2 / 718", nearest.seen(0, 0), 0);
        Due.is("seen(2, 0) at t = -2 / 718", nearest.seen(2, 0), WallBsp.NONE);
    }

    private static void wallThrough(int x, int y, int slope) {
        WallBsp b = new WallBsp();
        Due.is("a wall through the viewpoint", b.wall(x - 1, y - slope, x + 1, y + slope), 0);
        Due.is("look(" + x + ", " + y + ")", b.look(x, y), 0);
        Due.is("openRays() from (" + x + ", " + y + ")", b.openRays(), 64);
        Due.is("share(0) from (" + x + ", " + y + ")", b.share(0), 0);
    }

    /** No ray that hits a wall has a lesser angle to it than this one. */
    private static void raysAlmostAlongAWall() {
        Due.about("A ray is never parallel to a wall");
        int[][] walls = {{-14, -14, -10, 8}, {-10, 8, -14, -14}};
        for (int[] w : walls) {
            WallBsp b = new WallBsp();
            b.wall(w[0], w[1], w[2], w[3]);
            b.look(-9, 13);
            Due.is("seen(3, 6) of " + Arrays.toString(w), b.seen(3, 6), 0);
            Due.is("depth(3, 6) of " + Arrays.toString(w), b.depth(3, 6), 1024);
        }
    }

    /** Every ray that goes by an end point at a sixteenth of a step, which is the least. */
    private static void raysBesideEndPoints() {
        Due.about("and never goes through an end point of one");
        int cases = 0;
        for (int view = 0; view < 14 * 14; view++) {
            int x = 2 * (view % 14) - 13;
            int y = 2 * (view / 14) - 13;
            for (int end = 0; end < 15 * 15; end++) {
                for (int ray = 0; ray < 64; ray++) {
                    int u = 2 * (end % 15) - 14;
                    int v = 2 * (end / 15) - 14;
                    cases += besideEndPoint(x, y, u, v, ray / 16, ray % 16);
                }
            }
        }
        Due.that("such rays are found, not " + cases, cases > 1000);
    }

    private static int besideEndPoint(int x, int y, int u, int v, int look, int column) {
        int s = 2 * column - 15;
        int[][] directions = {{16, s}, {-s, 16}, {-16, -s}, {s, -16}};
        int dx = directions[look][0];
        int dy = directions[look][1];
        int side = dx * (v - y) - dy * (u - x);
        if (Math.abs(side) != 1 || dx * (u - x) + dy * (v - y) < 0) {
            return 0;
        }
        boolean isAlongX = look % 2 == 0;
        int depth = 64 * Math.abs(isAlongX ? u - x : v - y);
        for (int step = -2; step <= 2; step += 4) {
            int otherU = isAlongX ? u : u + step;
            int otherV = isAlongX ? v + step : v;
            int otherSide = dx * (otherV - y) - dy * (otherU - x);
            int want = side * otherSide < 0 ? depth : WallBsp.NONE;
            oneEnd(new int[] {u, v, otherU, otherV}, x, y, look, column, want);
            oneEnd(new int[] {otherU, otherV, u, v}, x, y, look, column, want);
        }
        return 1;
    }

    private static void oneEnd(int[] w, int x, int y, int look, int column, int depth) {
        WallBsp b = new WallBsp();
        // Some of the steps lead out of the plane.
        if (b.wall(w[0], w[1], w[2], w[3]) == 0) {
            b.look(x, y);
            String ray = "(" + look + ", " + column + ") of " + Arrays.toString(w) + " from (" + x
                    + ", " + y + ")";
            Due.is("depth" + ray, b.depth(look, column), depth);
            Due.is("seen" + ray, b.seen(look, column), depth < 0 ? WallBsp.NONE : 0);
        }
    }

    /** No ray hits two walls that can stand together at a closer t and t than here. */
    private static void leastOfTwoClose() {
        Due.about("The wall SEEN in a ray is the one that is hit at the least t of all walls");
        WallBsp nearFirst = new WallBsp();
        nearFirst.look(-13, -11);
        Due.is("the nearer wall", nearFirst.wall(-14, -14, 12, 14), 0);
        Due.is("the farther wall", nearFirst.wall(-12, -12, -10, -10), 1);
        Due.is("seen(0, 0)", nearFirst.seen(0, 0), 0);
        Due.is("depth(0, 0)", nearFirst.depth(0, 0), 61);
        WallBsp nearLast = new WallBsp();
        nearLast.look(-13, -11);
        Due.is("the farther wall", nearLast.wall(-12, -12, -10, -10), 0);
        Due.is("seen(0, 0) of it alone", nearLast.seen(0, 0), 0);
        Due.is("depth(0, 0) of it alone", nearLast.depth(0, 0), 66);
        Due.is("the nearer wall", nearLast.wall(-14, -14, 12, 14), 1);
        Due.is("seen(0, 0)", nearLast.seen(0, 0), 1);
        Due.is("depth(0, 0)", nearLast.depth(0, 0), 61);
        leastOfTwoSideBySide();
    }

    /** From (x, x + 2) they are hit at (20 - 2x) / 776 and at (24 - 2x) / 776. */
    private static void leastOfTwoSideBySide() {
        int[] near = {-14, -14, 10, 12};
        int[] far = {-12, -12, 12, 14};
        WallBsp nearFirst = Scene.of(near, far).made();
        WallBsp nearLast = Scene.of(far, near).made();
        for (int x = -13; x <= 9; x += 2) {
            nearFirst.look(x, x + 2);
            nearLast.look(x, x + 2);
            Due.is("seen(0, 0) from x = " + x, nearFirst.seen(0, 0), 0);
            Due.is("seen(0, 0) from x = " + x, nearLast.seen(0, 0), 1);
            int depth = 1024 * (20 - 2 * x) / 776;
            Due.is("depth(0, 0) from x = " + x, nearFirst.depth(0, 0), depth);
            Due.is("depth(0, 0) from x = " + x, nearLast.depth(0, 0), depth);
        }
    }

    private static void noCallThrows() {
        Due.about("No call ever throws");
        for (Scene scene : Scene.all()) {
            for (int first : WIDE) {
                try {
                    callAll(scene.made(), first);
                } catch (RuntimeException thrown) {
                    Due.that("no throw with " + scene + " and " + first + ": " + thrown, false);
                }
            }
        }
    }

    private static void callAll(WallBsp b, int first) {
        b.share(first);
        b.visible(first);
        b.edge(first);
        for (int second : WIDE) {
            b.coordinate(first, second);
            b.seen(first, second);
            b.depth(first, second);
            b.look(first, second);
            b.wall(first, second, 0, 2);
            b.wall(0, 2, first, second);
            b.wall(first, 0, second, 2);
            b.wall(0, first, 2, second);
            b.wall(first, first, second, second);
            b.wall(first, second, second, first);
        }
        for (int n = 0; n <= 11; n++) {
            b.unbuild();
        }
        Due.is("walls() after more unbuild() than walls", b.walls(), 0);
    }

    private static void askingChangesNothing() {
        Due.about("Nothing is promised beyond the answers and state changes described above");
        for (Scene scene : Scene.all()) {
            WallBsp b = scene.made();
            int[] before = Scene.answers(b);
            Due.that("the same answers twice with " + scene,
                    Arrays.equals(before, Scene.answers(b)));
        }
    }
}
