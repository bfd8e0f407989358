/** Whether two walls have a point in common, by solving for the two places along them. */
final class CrossModel {
    private CrossModel() {
    }

    static boolean meet(int[] one, int[] two) {
        long px = one[2] - one[0];
        long py = one[3] - one[1];
        long qx = two[2] - two[0];
        long qy = two[3] - two[1];
        long ex = two[0] - one[0];
        long ey = two[1] - one[1];
        long bottom = px * qy - py * qx;
        if (bottom != 0) {
            return isShare(ex * qy - ey * qx, bottom) && isShare(ex * py - ey * px, bottom);
        }
        if (ex * py - ey * px != 0) {
            return false;
        }
        long start = ex * px + ey * py;
        long end = start + qx * px + qy * py;
        return Math.max(start, end) >= 0 && Math.min(start, end) <= px * px + py * py;
    }

    private static boolean isShare(long top, long bottom) {
        return bottom > 0 ? top >= 0 && top <= bottom : top <= 0 && top >= bottom;
    }
}
