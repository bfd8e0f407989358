/** Promises 6 and 7: look, viewpoint. */
public final class ViewpointTest {
    public static void main(String[] args) {
        everyPoint();
        Due.end();
    }

    private static void everyPoint() {
        for (int x = -15; x <= 15; x++) {
            WallBsp b = new WallBsp();
            int stands = 495;
            for (int y = -15; y <= 15; y++) {
                boolean good = x % 2 != 0 && y % 2 != 0 && x > -15 && x < 15 && y > -15 && y < 15;
                String call = "look(" + x + ", " + y + ")";
                Due.is(call, b.look(x, y), good ? 0 : WallBsp.BAD_ARG);
                stands = good ? (x + 14) * 32 + y + 14 : stands;
                Due.is("viewpoint() after " + call, b.viewpoint(), stands);
            }
        }
    }
}
