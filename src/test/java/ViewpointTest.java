/** Promises 6 and 7: look, viewpoint. */
public final class ViewpointTest {
    public static void main(String[] args) {
        everyPoint();
        badArguments();
        Due.end();
    }

    private static void everyPoint() {
        for (int x = -15; x <= 15; x++) {
            WallBsp b = new WallBsp();
            int stands = 495;
            for (int y = -15; y <= 15; y++) {
                boolean good = x % 2 != 0 && y % 2 != 0 && x > -15 && x < 15 && y > -15 && y < 15;
                String call = "look(" + x + ", " + y + ")";
                Due.is(call, b.look(x, y), good ? 0 : WallBsp.BAD_ARG);
                stands = good ? (x + 14) * 32 + y + 14 : stands;
                Due.is("viewpoint() after " + call, b.viewpoint(), stands);
            }
        }
    }

    private static void badArguments() {
        int[] bad = {Integer.MIN_VALUE, Integer.MIN_VALUE + 1, Integer.MAX_VALUE,
            Integer.MAX_VALUE - 1, 257, -257, 65537, 17, -17, 0, 2, -14, 14};
        WallBsp b = new WallBsp();
        Due.is("look(-13, 13)", b.look(-13, 13), 0);
        for (int wrong : bad) {
            Due.is("look(" + wrong + ", 1)", b.look(wrong, 1), WallBsp.BAD_ARG);
            Due.is("look(1, " + wrong + ")", b.look(1, wrong), WallBsp.BAD_ARG);
            Due.is("viewpoint()", b.viewpoint(), 59);
        }
        Due.is("look(13, -13)", b.look(13, -13), 0);
        Due.is("viewpoint()", b.viewpoint(), 27 * 32 + 1);
    }
}
