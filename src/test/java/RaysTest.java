/** Promises 8 to 13: seen, depth, share, openRays, visible, edge. */
public final class RaysTest {
    public static void main(String[] args) {
        turnedLooks();
        onTheWall();
        nearestOfSeveral();
        columnsAndEdges();
        Due.end();
    }

    /** One wall on each side, each at its own distance and open at its own end of the look. */
    private static void turnedLooks() {
        WallBsp b = new WallBsp();
        b.look(-1, -1);
        b.wall(2, -4, 2, 0);
        b.wall(-4, 4, 0, 4);
        b.wall(-8, -6, -8, 6);
        b.wall(-4, -10, 8, -10);
        int[] share = {11, 7, 14, 11};
        int[] forward = {3, 5, 7, 9};
        int[] open = {12, 0, 15, 0};
        int[] edge = {10, 5, 13, 4};
        for (int look = 0; look < 4; look++) {
            Due.is("share(" + look + ")", b.share(look), share[look]);
            Due.is("visible(" + look + ")", b.visible(look), 1);
            Due.is("edge(" + look + ")", b.edge(look), edge[look]);
            Due.is("open end of look " + look, b.seen(look, open[look]), WallBsp.NONE);
            Due.is("its depth", b.depth(look, open[look]), WallBsp.NONE);
            int shut = edge[look] + (open[look] == 0 ? 1 : 0);
            Due.is("seen(" + look + ", " + shut + ")", b.seen(look, shut), look);
            Due.is("depth(" + look + ", " + shut + ")", b.depth(look, shut), 64 * forward[look]);
        }
        Due.is("openRays()", b.openRays(), 64 - 11 - 7 - 14 - 11);
    }

    /** A wall through the viewpoint is met at t = 0 alone, which is no hit. */
    private static void onTheWall() {
        WallBsp b = new WallBsp();
        b.wall(-14, -14, 14, 14);
        Due.is("share(0) on the wall", b.share(0), 0);
        Due.is("openRays() on the wall", b.openRays(), 64);
        b.wall(14, -14, 14, 12);
        Due.is("seen(0, 8) from the wall", b.seen(0, 8), 1);
        Due.is("depth(0, 8) from the wall", b.depth(0, 8), 13 * 64);
        b.look(1, 3);
        Due.is("seen(0, 8) beside the wall", b.seen(0, 8), 0);
        Due.is("depth(0, 8) beside the wall", b.depth(0, 8), 136);
    }

    private static void nearestOfSeveral() {
        int[] places = {8, 4, 12, 2, 10, 6};
        WallBsp b = new WallBsp();
        int nearest = -1;
        for (int n = 0; n < places.length; n++) {
            b.wall(places[n], -14, places[n], 14);
            nearest = nearest < 0 || places[n] < places[nearest] ? n : nearest;
            Due.is("seen(0, 8) with " + (n + 1), b.seen(0, 8), nearest);
            Due.is("depth(0, 8) with " + (n + 1), b.depth(0, 8), 64 * (places[nearest] - 1));
        }
        b.look(11, 1);
        Due.is("seen(2, 8) from (11, 1)", b.seen(2, 8), 4);
        Due.is("seen(0, 8) from (11, 1)", b.seen(0, 8), 2);
        b.look(13, 1);
        Due.is("seen(0, 8) from (13, 1)", b.seen(0, 8), WallBsp.NONE);
        Due.is("seen(2, 8) from (13, 1)", b.seen(2, 8), 2);
    }

    private static void columnsAndEdges() {
        WallBsp b = new WallBsp();
        b.wall(4, 2, 4, 14);
        Due.is("edge(0) from open to a wall", b.edge(0), 10);
        Due.is("visible(0)", b.visible(0), 1);
        b.wall(4, -14, 4, 0);
        Due.is("edge(0) with a gap", b.edge(0), 4);
        Due.is("visible(0)", b.visible(0), 2);
        Due.is("share(0), in looks 0 and 1", b.share(0), 5 + 6);
        b.wall(14, -14, 14, 14);
        Due.is("visible(0) with a wall behind the gap", b.visible(0), 3);
        Due.is("share(2)", b.share(2), 6);
        Due.is("seen(0, 4)", b.seen(0, 4), 1);
        Due.is("seen(0, 5)", b.seen(0, 5), 2);
        Due.is("seen(0, 10)", b.seen(0, 10), 2);
        Due.is("seen(0, 11)", b.seen(0, 11), 0);
        b.wall(2, -6, 2, 8);
        Due.is("edge(0) with one wall before all", b.edge(0), WallBsp.NONE);
        Due.is("visible(0)", b.visible(0), 1);
        Due.is("share(3), in looks 0, 1 and 3", b.share(3), 16 + 7 + 7);
        oneWallSeenTwice();
    }

    private static void oneWallSeenTwice() {
        WallBsp b = new WallBsp();
        b.wall(10, -14, 10, 14);
        b.wall(6, 0, 6, 2);
        Due.is("visible(0) of a wall on both sides of another", b.visible(0), 2);
        Due.is("edge(0)", b.edge(0), 5);
        Due.is("share(1)", b.share(1), 4);
    }
}
