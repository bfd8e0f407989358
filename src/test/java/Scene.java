/** A state to ask in, made anew each time, so that no object is used for more than 512 calls. */
final class Scene {
    static final int ANSWERS = 3 + 10 * 5 + 4 * (2 + 16 * 2);

    /** Each wall stands in a column of its own of look 0, seen from (-13, 1): columns 3 to 12. */
    private static final int[][] TEN_IN_ONE_LOOK = {
        {8, -12, 8, -10}, {14, -12, 14, -10}, {14, -8, 14, -6}, {12, -4, 12, -2}, {14, -2, 14, 0},
        {14, 2, 14, 4}, {14, 6, 14, 8}, {12, 8, 12, 10}, {14, 12, 14, 14}, {8, 12, 8, 14}};

    static final Scene NEW = new Scene("a new object", 0, 1, 1);
    static final Scene EMPTIED = new Scene("two walls taken down again", 2, 3, -5,
            new int[] {4, -14, 4, 14}, new int[] {8, -14, 8, 14});
    static final Scene ONE = new Scene("one wall", 0, 1, 1, new int[] {4, -14, 4, 14});
    static final Scene ON_A_WALL = new Scene("a viewpoint on wall 0 of 2", 0, 1, 1,
            new int[] {-14, -14, 14, 14}, new int[] {14, -14, 14, 12});
    static final Scene NINE = new Scene("nine walls", 0, -13, 1, firstOfTen(9));
    static final Scene TEN = new Scene("ten walls", 0, -13, 1, firstOfTen(10));
    static final Scene NINE_OF_TEN = new Scene("ten walls and one down", 1, -13, 1, firstOfTen(10));

    final int standing;
    private final String name;
    private final int[][] built;
    private final int takenDown;
    private final int viewX;
    private final int viewY;

    private Scene(String name, int takenDown, int viewX, int viewY, int[]... built) {
        this.name = name;
        this.built = built;
        this.takenDown = takenDown;
        this.viewX = viewX;
        this.viewY = viewY;
        standing = built.length - takenDown;
    }

    /** The walls given, seen from (1, 1). */
    static Scene of(int[]... walls) {
        return new Scene(java.util.Arrays.deepToString(walls), 0, 1, 1, walls);
    }

    private static int[][] firstOfTen(int count) {
        return java.util.Arrays.copyOf(TEN_IN_ONE_LOOK, count);
    }

    static Scene[] all() {
        return new Scene[] {NEW, EMPTIED, ONE, ON_A_WALL, NINE, TEN, NINE_OF_TEN};
    }

    WallBsp made() {
        WallBsp b = new WallBsp();
        for (int n = 0; n < built.length; n++) {
            int[] w = built[n];
            Due.is("wall " + n + " of " + name, b.wall(w[0], w[1], w[2], w[3]), n);
        }
        for (int n = 1; n <= takenDown; n++) {
            Due.is("unbuild() of " + name, b.unbuild(), built.length - n);
        }
        // Not called on the new object, which has its viewpoint from its constructor.
        if (viewX != 1 || viewY != 1) {
            Due.is("look(" + viewX + ", " + viewY + ")", b.look(viewX, viewY), 0);
        }
        return b;
    }

    /** All that can be asked of an object, in ANSWERS calls. */
    static int[] answers(WallBsp b) {
        int[] answers = new int[ANSWERS];
        int i = 0;
        answers[i++] = b.walls();
        answers[i++] = b.viewpoint();
        answers[i++] = b.openRays();
        for (int n = 0; n < 10; n++) {
            answers[i++] = b.share(n);
            for (int k = 0; k < 4; k++) {
                answers[i++] = b.coordinate(n, k);
            }
        }
        for (int look = 0; look < 4; look++) {
            answers[i++] = b.visible(look);
            answers[i++] = b.edge(look);
            for (int column = 0; column < 16; column++) {
                answers[i++] = b.seen(look, column);
                answers[i++] = b.depth(look, column);
            }
        }
        Due.is("the number of answers", i, answers.length);
        return answers;
    }

    @Override
    public String toString() {
        return name;
    }
}
