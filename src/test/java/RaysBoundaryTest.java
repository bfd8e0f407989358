/** The boundary cases of promises 8 to 13, each on its own: what is seen. */
public final class RaysBoundaryTest {
    /** Some of them come back into the range if bits are cut off or a product overflows. */
    private static final int[] BAD_LOOKS = {-1, 4, -4, 5, 8, -16, 256, 65536, 1 << 28, 1 << 30,
        Integer.MIN_VALUE, Integer.MAX_VALUE};
    private static final int[] BAD_COLUMNS = {-1, 16, -16, 17, 32, 256, 65536, 1 << 28, 1 << 30,
        Integer.MIN_VALUE, Integer.MAX_VALUE};

    /** Each wall shuts the gap beside the one before it. */
    private static final Scene SHUT_IN = Scene.of(new int[] {6, -14, 6, 6},
            new int[] {14, 8, -2, 8}, new int[] {-4, 14, -4, -2}, new int[] {-14, -4, 4, -4});

    public static void main(String[] args) {
        seenOutsideTheLooks();
        seenOutsideTheColumns();
        seenWithoutAHit();
        seenFirstAndLastWall();
        depthOutsideTheLooks();
        depthOutsideTheColumns();
        depthWithoutAHit();
        depthRoundedDown();
        leastAndGreatestDepth();
        shareOfNoWall();
        leastAndGreatestShare();
        openRaysFromNoneToAll();
        visibleOutsideTheLooks();
        visibleFromNoneToTen();
        visibleCountsWallsOnce();
        visibleInFirstAndLastColumn();
        edgeOutsideTheLooks();
        edgeWhereThereIsNone();
        edgeDoesNotWrapAround();
        edgeAtFirstAndLastColumn();
        edgeBetweenWallAndOpen();
        edgeIsTheLeast();
        Due.end();
    }

    private static void seenOutsideTheLooks() {
        Due.about("Promise 8: BAD_ARG if look is not 0 to 3");
        for (int look : BAD_LOOKS) {
            for (int column : new int[] {0, 8, 15}) {
                Refused.everywhere("seen(" + look + ", " + column + ")", b -> b.seen(look, column),
                        WallBsp.BAD_ARG);
            }
        }
    }

    private static void seenOutsideTheColumns() {
        Due.about("Promise 8: BAD_ARG if column is not 0 to 15");
        for (int column : BAD_COLUMNS) {
            for (int look = -1; look <= 4; look++) {
                int ray = look;
                Refused.everywhere("seen(" + look + ", " + column + ")", b -> b.seen(ray, column),
                        WallBsp.BAD_ARG);
            }
        }
    }

    private static void seenWithoutAHit() {
        Due.about("Promise 8: NONE if no wall is hit.");
        for (int look = 0; look < 4; look++) {
            for (int column = 0; column < 16; column++) {
                String ray = "(" + look + ", " + column + ")";
                Due.is("seen" + ray, Scene.NEW.made().seen(look, column), WallBsp.NONE);
                Due.is("seen" + ray, Scene.EMPTIED.made().seen(look, column), WallBsp.NONE);
                boolean isHit = look == 0 && column >= 3 && column <= 12;
                Due.is("seen" + ray, Scene.TEN.made().seen(look, column),
                        isHit ? column - 3 : WallBsp.NONE);
            }
        }
    }

    private static void seenFirstAndLastWall() {
        Due.about("Promise 8: The wall seen");
        WallBsp b = Scene.TEN.made();
        Due.is("seen(0, 3)", b.seen(0, 3), 0);
        Due.is("seen(0, 12)", b.seen(0, 12), 9);
        b.unbuild();
        Due.is("seen(0, 12) of a wall taken down", b.seen(0, 12), WallBsp.NONE);
        Due.is("a wall before all", b.wall(-12, -14, -12, 14), 9);
        Due.is("seen(0, 3) behind it", b.seen(0, 3), 9);
        Due.is("seen(0, 15) behind it", b.seen(0, 15), 9);
    }

    private static void depthOutsideTheLooks() {
        Due.about("Promise 9: BAD_ARG if look is not 0 to 3");
        for (int look : BAD_LOOKS) {
            for (int column : new int[] {0, 8, 15}) {
                Refused.everywhere("depth(" + look + ", " + column + ")",
                        b -> b.depth(look, column), WallBsp.BAD_ARG);
            }
        }
    }

    private static void depthOutsideTheColumns() {
        Due.about("Promise 9: BAD_ARG if column is not 0 to 15");
        for (int column : BAD_COLUMNS) {
            for (int look = -1; look <= 4; look++) {
                int ray = look;
                Refused.everywhere("depth(" + look + ", " + column + ")",
                        b -> b.depth(ray, column), WallBsp.BAD_ARG);
            }
        }
    }

    private static void depthWithoutAHit() {
        Due.about("Promise 9: NONE if no wall is hit.");
        int[] forward = {21, 27, 27, 25, 27, 27, 27, 25, 27, 21};
        for (int look = 0; look < 4; look++) {
            for (int column = 0; column < 16; column++) {
                String ray = "(" + look + ", " + column + ")";
                Due.is("depth" + ray, Scene.NEW.made().depth(look, column), WallBsp.NONE);
                Due.is("depth" + ray, Scene.EMPTIED.made().depth(look, column), WallBsp.NONE);
                boolean isHit = look == 0 && column >= 3 && column <= 12;
                Due.is("depth" + ray, Scene.TEN.made().depth(look, column),
                        isHit ? 64 * forward[column - 3] : WallBsp.NONE);
            }
        }
    }

    private static void depthOf(int[] w, int x, int y, int look, int column, int want) {
        int[][] bothWays = {w, {w[2], w[3], w[0], w[1]}};
        for (int[] way : bothWays) {
            WallBsp b = new WallBsp();
            b.wall(way[0], way[1], way[2], way[3]);
            b.look(x, y);
            Due.is("depth(" + look + ", " + column + ") of " + java.util.Arrays.toString(way)
                    + " from (" + x + ", " + y + ")", b.depth(look, column), want);
        }
    }

    /** The parts that are cut off are the greatest and the least that there are, and none. */
    private static void depthRoundedDown() {
        Due.about("Promise 9: 1024 times the t at which the wall seen is hit, rounded down");
        int[] wall = {-14, -14, 12, 14};
        for (int look = 0; look < 4; look++) {
            int[] far = turned(-7, -1, look);
            int[] near = turned(-11, 5, look);
            int[] turnedWall = turnedWall(wall, look);
            depthOf(turnedWall, far[0], far[1], look, 1, 142 * 1024 / 786);
            depthOf(turnedWall, near[0], near[1], look, 0, 410 * 1024 / 838);
        }
        Due.is("142 * 1024 / 786 cuts off 784 / 786", 142 * 1024 % 786, 784);
        Due.is("410 * 1024 / 838 cuts off 2 / 838", 410 * 1024 % 838, 2);
        depthOf(new int[] {2, -14, 2, 14}, 1, 1, 0, 8, 64);
    }

    /** A quarter turn leads from each look to the next one. */
    private static int[] turned(int x, int y, int quarters) {
        return quarters == 0 ? new int[] {x, y} : turned(-y, x, quarters - 1);
    }

    private static int[] turnedWall(int[] w, int quarters) {
        int[] from = turned(w[0], w[1], quarters);
        int[] to = turned(w[2], w[3], quarters);
        return new int[] {from[0], from[1], to[0], to[1]};
    }

    private static void leastAndGreatestDepth() {
        Due.about("Promise 9: 1024 times the t (the least and the greatest that there are)");
        for (int look = 0; look < 4; look++) {
            int[] near = turned(-7, -3, look);
            depthOf(turnedWall(new int[] {-14, -14, 4, 14}, look), near[0], near[1], look, 0, 2);
            int[] far = turned(-13, -13, look);
            depthOf(turnedWall(new int[] {14, -14, 14, 14}, look), far[0], far[1], look, 15, 1728);
            depthOf(turnedWall(new int[] {14, -14, 14, 14}, look), far[0], far[1], look, 8, 1728);
        }
    }

    private static void shareOfNoWall() {
        Due.about("Promise 10: NONE if there is no wall n.");
        for (Scene scene : Scene.all()) {
            // NONE itself is no wall either, though it stands for what is seen in an open ray.
            int[] ns = {-1, scene.standing, WallBsp.NONE, 10, 11, -100, 256, Integer.MIN_VALUE,
                Integer.MAX_VALUE};
            for (int n : ns) {
                Refused.in(scene, "share(" + n + ")", b -> b.share(n), WallBsp.NONE);
            }
        }
    }

    private static void leastAndGreatestShare() {
        Due.about("Promise 10: In how many of the 64 rays wall n is seen");
        WallBsp most = Scene.of(new int[] {-14, -14, -10, -4}).made();
        most.look(-13, -11);
        Due.is("share(0) of half of all rays", most.share(0), 32);
        Due.is("openRays() of the other half", most.openRays(), 32);
        WallBsp ten = Scene.TEN.made();
        for (int n = 0; n < 10; n++) {
            Due.is("share(" + n + ") of one ray each", ten.share(n), 1);
        }
        WallBsp hidden = Scene.of(new int[] {4, -14, 4, 14}, new int[] {8, -2, 8, 2}).made();
        Due.is("share(1) of a wall behind another", hidden.share(1), 0);
    }

    private static void openRaysFromNoneToAll() {
        Due.about("Promise 11: In how many of the 64 rays no wall is hit.");
        Due.is("openRays() without walls", Scene.NEW.made().openRays(), 64);
        Due.is("openRays() with walls taken down", Scene.EMPTIED.made().openRays(), 64);
        Due.is("openRays() with ten walls", Scene.TEN.made().openRays(), 54);
        WallBsp b = SHUT_IN.made();
        Due.is("openRays() shut in", b.openRays(), 0);
        Due.is("all shares shut in", b.share(0) + b.share(1) + b.share(2) + b.share(3), 64);
    }

    private static void visibleOutsideTheLooks() {
        Due.about("Promise 12: BAD_ARG if look is not 0 to 3.");
        for (int look : BAD_LOOKS) {
            Refused.everywhere("visible(" + look + ")", b -> b.visible(look), WallBsp.BAD_ARG);
        }
    }

    private static void visibleFromNoneToTen() {
        Due.about("Promise 12: The number of different walls seen in the sixteen columns");
        int[] shutIn = {1, 2, 2, 2};
        for (int look = 0; look < 4; look++) {
            Due.is("visible(" + look + ") without walls", Scene.NEW.made().visible(look), 0);
            Due.is("visible(" + look + ") with ten walls", Scene.TEN.made().visible(look),
                    look == 0 ? 10 : 0);
            Due.is("visible(" + look + ") of nine of ten", Scene.NINE_OF_TEN.made().visible(look),
                    look == 0 ? 9 : 0);
            Due.is("visible(" + look + ") shut in", SHUT_IN.made().visible(look),
                    shutIn[look]);
        }
    }

    private static void visibleCountsWallsOnce() {
        Due.about("Promise 12: different walls");
        WallBsp b = Scene.of(new int[] {10, -14, 10, 14}, new int[] {6, 0, 6, 2}).made();
        Due.is("seen(0, 5) beside a wall", b.seen(0, 5), 0);
        Due.is("seen(0, 6)", b.seen(0, 6), 1);
        Due.is("seen(0, 9)", b.seen(0, 9), 1);
        Due.is("seen(0, 10) on its other side", b.seen(0, 10), 0);
        Due.is("visible(0)", b.visible(0), 2);
    }

    private static void visibleInFirstAndLastColumn() {
        Due.about("Promise 12: in the sixteen columns of a look (0 and 15)");
        for (int look = 0; look < 4; look++) {
            WallBsp b = Scene.of(turnedWall(new int[] {2, -12, 2, -10}, look),
                    turnedWall(new int[] {2, 12, 2, 14}, look)).made();
            int[] view = turned(-11, 1, look);
            b.look(view[0], view[1]);
            Due.is("share(0), seen in column 0 alone", b.share(0), 1);
            Due.is("share(1), seen in column 15 alone", b.share(1), 1);
            Due.is("visible(" + look + ")", b.visible(look), 2);
            Due.is("visible of the next look", b.visible((look + 1) % 4), 0);
            Due.is("visible of the look before", b.visible((look + 3) % 4), 0);
        }
    }

    private static void edgeOutsideTheLooks() {
        Due.about("Promise 13: BAD_ARG if look is not 0 to 3");
        for (int look : BAD_LOOKS) {
            Refused.everywhere("edge(" + look + ")", b -> b.edge(look), WallBsp.BAD_ARG);
        }
    }

    private static void edgeWhereThereIsNone() {
        Due.about("Promise 13: NONE if there is none.");
        for (int look = 0; look < 4; look++) {
            Due.is("edge(" + look + ") without walls", Scene.NEW.made().edge(look), WallBsp.NONE);
            Due.is("edge(" + look + ") with walls taken down", Scene.EMPTIED.made().edge(look),
                    WallBsp.NONE);
            int[] w = turnedWall(new int[] {2, -14, 2, 14}, look);
            int[] view = turned(1, 1, look);
            WallBsp b = Scene.of(w).made();
            b.look(view[0], view[1]);
            Due.is("edge(" + look + ") of one wall in all columns", b.edge(look), WallBsp.NONE);
        }
    }

    /** The ray after column 15 is open, be it taken as column 0 of the next look or as s = 17. */
    private static void edgeDoesNotWrapAround() {
        Due.about("Promise 13: The least column c of the look (there is no column 16)");
        for (int look = 0; look < 4; look++) {
            int[] w = turnedWall(new int[] {14, -14, 14, 14}, look);
            int[] view = turned(1, 1, look);
            WallBsp b = Scene.of(w).made();
            b.look(view[0], view[1]);
            Due.is("seen(" + look + ", 15)", b.seen(look, 15), 0);
            Due.is("seen in column 0 of the next look", b.seen((look + 1) % 4, 0), WallBsp.NONE);
            Due.is("edge(" + look + ")", b.edge(look), WallBsp.NONE);
        }
    }

    private static void edgeAtFirstAndLastColumn() {
        Due.about("Promise 13: The least column c of the look (0 and 14)");
        for (int look = 0; look < 4; look++) {
            int[] view = turned(-11, 1, look);
            WallBsp first = Scene.of(turnedWall(new int[] {2, -12, 2, -10}, look)).made();
            first.look(view[0], view[1]);
            Due.is("edge(" + look + ") after column 0", first.edge(look), 0);
            WallBsp last = Scene.of(turnedWall(new int[] {2, 12, 2, 14}, look)).made();
            last.look(view[0], view[1]);
            Due.is("edge(" + look + ") before column 15", last.edge(look), 14);
        }
    }

    private static void edgeBetweenWallAndOpen() {
        Due.about("Promise 13: also if in one of them no wall is hit and in the other some is");
        WallBsp toWall = Scene.of(new int[] {4, 2, 4, 14}).made();
        Due.is("seen(0, 10)", toWall.seen(0, 10), WallBsp.NONE);
        Due.is("seen(0, 11)", toWall.seen(0, 11), 0);
        Due.is("edge(0) from open to wall", toWall.edge(0), 10);
        WallBsp toOpen = Scene.of(new int[] {4, -14, 4, 0}).made();
        Due.is("seen(0, 4)", toOpen.seen(0, 4), 0);
        Due.is("seen(0, 5)", toOpen.seen(0, 5), WallBsp.NONE);
        Due.is("edge(0) from wall to open", toOpen.edge(0), 4);
    }

    private static void edgeIsTheLeast() {
        Due.about("Promise 13: The least column c such that the walls seen in c and c + 1 differ");
        WallBsp ten = Scene.TEN.made();
        Due.is("edge(0) of eleven", ten.edge(0), 2);
        WallBsp b = Scene.of(new int[] {14, -14, 14, 14}, new int[] {4, 2, 4, 14}).made();
        Due.is("edge(0) from wall to wall", b.edge(0), 10);
        Due.is("a third wall", b.wall(4, -14, 4, 0), 2);
        Due.is("edge(0) of two", b.edge(0), 4);
    }
}
