/** Promises 2 to 5: wall, unbuild, walls, coordinate. */
public final class WallTest {
    public static void main(String[] args) {
        edgesOfThePlane();
        crossings();
        takingDown();
        coordinates();
        Due.end();
    }

    private static void edgesOfThePlane() {
        WallBsp b = new WallBsp();
        Due.is("left", b.wall(-14, -14, -14, 14), 0);
        Due.is("right", b.wall(14, 14, 14, -14), 1);
        Due.is("top", b.wall(-12, 14, 12, 14), 2);
        Due.is("bottom", b.wall(12, -14, -12, -14), 3);
        Due.is("shortest", b.wall(0, 0, 2, 0), 4);
        Due.is("same x, other y", b.wall(0, 2, 0, 4), 5);
        Due.is("walls()", b.walls(), 6);
    }

    private static WallBsp withWalls(int count) {
        WallBsp b = new WallBsp();
        for (int n = 0; n < count; n++) {
            Due.is("wall number " + n, b.wall(-10 + 2 * n, -4, -10 + 2 * n, 4), n);
        }
        return b;
    }

    private static void second(int a, int b, int c, int d, int x, int y, int u, int v, int want) {
        String what = "(" + a + ", " + b + ", " + c + ", " + d + ") then (" + x + ", " + y + ", "
                + u + ", " + v + ")";
        int[][] walls = {{a, b, c, d}, {c, d, a, b}};
        int[][] others = {{x, y, u, v}, {u, v, x, y}};
        for (int[] w : walls) {
            for (int[] o : others) {
                WallBsp first = new WallBsp();
                first.wall(w[0], w[1], w[2], w[3]);
                Due.is(what, first.wall(o[0], o[1], o[2], o[3]), want);
                WallBsp turned = new WallBsp();
                turned.wall(o[0], o[1], o[2], o[3]);
                Due.is(what + " turned", turned.wall(w[0], w[1], w[2], w[3]), want);
            }
        }
    }

    private static void crossings() {
        int crosses = WallBsp.CROSSES;
        second(0, 0, 4, 4, 0, 4, 4, 0, crosses);
        second(0, 0, 2, 2, 0, 2, 2, 0, crosses);
        second(0, 0, 6, 4, 0, 2, 6, 0, crosses);
        second(0, 0, 4, 0, 4, 0, 4, 4, crosses);
        second(0, 0, 4, 0, 2, 0, 2, 6, crosses);
        second(0, 0, 6, 2, 0, 0, 6, 2, crosses);
        second(0, 0, 4, 0, 2, 0, 6, 0, crosses);
        second(0, 0, 4, 0, 4, 0, 8, 0, crosses);
        second(0, 0, 8, 0, 2, 0, 4, 0, crosses);
        second(-14, -14, 14, 14, 0, 0, 2, 2, crosses);
        second(0, -14, 0, 14, 0, 2, 0, 4, crosses);
        second(0, 0, 4, 0, 6, 0, 8, 0, 1);
        second(0, 0, 0, 4, 0, 6, 0, 8, 1);
        second(0, 0, 4, 4, 6, 6, 8, 8, 1);
        second(0, 4, 4, 0, 6, -2, 8, -4, 1);
        second(0, 0, 4, 4, 2, 0, 6, 4, 1);
        second(0, 0, 8, 8, 4, 2, 6, 0, 1);
        second(0, 0, 14, 12, 2, 0, 14, 10, 1);
        second(0, 0, 4, 0, 2, 2, 2, 6, 1);
        second(-14, -14, 14, 12, -12, -12, 14, 14, 1);
        WallBsp b = withWalls(5);
        Due.is("crosses the last alone", b.wall(-2, 0, 0, 0), WallBsp.CROSSES);
        Due.is("crosses the first alone", b.wall(-10, 0, -12, 0), WallBsp.CROSSES);
        Due.is("the last taken down", b.unbuild(), 4);
        Due.is("crosses it no more", b.wall(-2, 0, 0, 0), 4);
    }

    private static void takingDown() {
        WallBsp b = withWalls(10);
        for (int n = 9; n >= 0; n--) {
            Due.is("unbuild()", b.unbuild(), n);
            Due.is("walls()", b.walls(), n);
            Due.is("coordinate of it", b.coordinate(n, 0), WallBsp.NONE);
            Due.is("share of it", b.share(n), WallBsp.NONE);
        }
        Due.is("unbuild()", b.unbuild(), WallBsp.NONE);
        Due.is("walls()", b.walls(), 0);
        Due.is("openRays()", b.openRays(), 64);
        Due.is("the first again", b.wall(2, -14, 2, 14), 0);
        Due.is("its u", b.coordinate(0, 2), 2);
    }

    private static void coordinates() {
        WallBsp b = new WallBsp();
        b.wall(-14, 12, 10, -8);
        b.wall(6, 4, 2, 14);
        int[][] want = {{-14, 12, 10, -8}, {6, 4, 2, 14}};
        for (int n = 0; n < 2; n++) {
            for (int k = 0; k < 4; k++) {
                Due.is("coordinate(" + n + ", " + k + ")", b.coordinate(n, k), want[n][k]);
            }
            for (int k : new int[] {-1, 4, 5, Integer.MIN_VALUE, Integer.MAX_VALUE}) {
                Due.is("coordinate(" + n + ", " + k + ")", b.coordinate(n, k), -100);
            }
        }
        for (int n : new int[] {-1, 2, 9, 10, Integer.MIN_VALUE, Integer.MAX_VALUE}) {
            Due.is("coordinate(" + n + ", 0)", b.coordinate(n, 0), WallBsp.NONE);
            Due.is("coordinate(" + n + ", 4)", b.coordinate(n, 4), WallBsp.NONE);
        }
    }
}
