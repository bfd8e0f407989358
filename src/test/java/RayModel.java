/** When a ray hits a wall, found by turning the scene so that every look is look 0. */
final class RayModel {
    private RayModel() {
    }

    /** t as a numerator and a denominator above 0, or both 0 if the wall is not hit. */
    static long[] hit(int[] wall, int viewX, int viewY, int look, int column) {
        long[] a = turned(wall[0] - viewX, wall[1] - viewY, look);
        long[] b = turned(wall[2] - viewX, wall[3] - viewY, look);
        long s = 2L * column - 15;
        long above = 16 * a[1] - s * a[0];
        long otherAbove = 16 * b[1] - s * b[0];
        long bottom = above - otherAbove;
        // The line of the ray is met at a + (b - a) * above / bottom, which is 16 t to the right.
        long top = a[0] * bottom + (b[0] - a[0]) * above;
        if (bottom < 0) {
            top = -top;
            bottom = -bottom;
        }
        boolean isBetween = (above < 0) != (otherAbove < 0);
        return isBetween && top > 0 ? new long[] {top, 16 * bottom} : new long[] {0, 0};
    }

    private static long[] turned(long x, long y, int look) {
        for (int turn = 0; turn < look; turn++) {
            long oldX = x;
            x = y;
            y = -oldX;
        }
        return new long[] {x, y};
    }
}
