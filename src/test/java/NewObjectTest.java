/** Promise 1, and promises 3, 4, 7 to 13 on an object without walls. */
public final class NewObjectTest {
    public static void main(String[] args) {
        WallBsp b = new WallBsp();
        Due.is("walls()", b.walls(), 0);
        Due.is("viewpoint()", b.viewpoint(), 15 * 32 + 15);
        Due.is("unbuild()", b.unbuild(), WallBsp.NONE);
        Due.is("walls() after a refused unbuild", b.walls(), 0);
        Due.is("openRays()", b.openRays(), 64);
        Due.is("share(0)", b.share(0), WallBsp.NONE);
        Due.is("coordinate(0, 0)", b.coordinate(0, 0), WallBsp.NONE);
        Due.is("coordinate(0, 4)", b.coordinate(0, 4), WallBsp.NONE);
        for (int look = 0; look < 4; look++) {
            Due.is("visible(" + look + ")", b.visible(look), 0);
            Due.is("edge(" + look + ")", b.edge(look), WallBsp.NONE);
            for (int column = 0; column < 16; column++) {
                Due.is("seen(" + look + ", " + column + ")", b.seen(look, column), WallBsp.NONE);
                Due.is("depth(" + look + ", " + column + ")", b.depth(look, column), WallBsp.NONE);
            }
        }
        objectsAreApart();
        Due.end();
    }

    private static void objectsAreApart() {
        WallBsp first = new WallBsp();
        first.wall(4, -14, 4, 14);
        first.look(-3, 5);
        WallBsp second = new WallBsp();
        Due.is("walls() of a second object", second.walls(), 0);
        Due.is("viewpoint() of a second object", second.viewpoint(), 495);
        second.wall(-4, -14, -4, 14);
        Due.is("coordinate(0, 0) of the first", first.coordinate(0, 0), 4);
        Due.is("viewpoint() of the first", first.viewpoint(), 11 * 32 + 19);
    }
}
