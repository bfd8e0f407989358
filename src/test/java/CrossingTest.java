/** Promise 2's CROSSES against another way to find common points: all pairs of a small grid. */
public final class CrossingTest {
    private static final int GRID = 5;
    private static final int SAMPLES = 300000;

    public static void main(String[] args) {
        everySmallPair();
        widePairs();
        Due.end();
    }

    private static void everySmallPair() {
        int points = GRID * GRID;
        for (int a = 0; a < points; a++) {
            for (int b = 0; b < points; b++) {
                for (int c = 0; c < points; c++) {
                    for (int d = 0; d < points; d++) {
                        if (a != b && c != d) {
                            pair(wall(a, b), wall(c, d));
                        }
                    }
                }
            }
        }
    }

    private static int[] wall(int from, int to) {
        return new int[] {from % GRID * 2 - 4, from / GRID * 2 - 4, to % GRID * 2 - 4,
            to / GRID * 2 - 4};
    }

    private static void widePairs() {
        Numbers numbers = new Numbers(7);
        for (int i = 0; i < SAMPLES; i++) {
            pair(numbers.wall(), numbers.wall());
        }
    }

    private static void pair(int[] one, int[] two) {
        WallBsp b = new WallBsp();
        Due.is("the first wall", b.wall(one[0], one[1], one[2], one[3]), 0);
        int want = CrossModel.meet(one, two) ? WallBsp.CROSSES : 1;
        int got = b.wall(two[0], two[1], two[2], two[3]);
        if (got != want) {
            Due.is(java.util.Arrays.toString(one) + " then " + java.util.Arrays.toString(two), got,
                    want);
        }
    }
}
