/**
 * Walls in the plane seen from a point: which wall is seen in each of sixteen columns, looking in
 * each of four directions, and how far away it is.
 */
public final class WallBsp {
    public static final int BAD_ARG = -1;
    public static final int FULL = -2;
    public static final int CROSSES = -3;
    public static final int NONE = -4;

    private static final int NO_COORDINATE = -100;
    private static final int MAX_WALLS = 10;
    private static final int LIMIT = 14;
    private static final int LOOKS = 4;
    private static final int COLUMNS = 16;
    private static final int FORWARD = 16;
    private static final int DEPTH_SCALE = 1024;
    private static final int VIEWPOINT_SCALE = 32;

    private final int[] fromX = new int[MAX_WALLS];
    private final int[] fromY = new int[MAX_WALLS];
    private final int[] toX = new int[MAX_WALLS];
    private final int[] toY = new int[MAX_WALLS];
    private int wallCount;
    private int viewX;
    private int viewY;

    public WallBsp() {
        wallCount = 0;
        viewX = 1;
        viewY = 1;
    }

    public int wall(int x, int y, int u, int v) {
        if (!isWallPoint(x, y) || !isWallPoint(u, v) || (x == u && y == v)) {
            return BAD_ARG;
        }
        if (wallCount >= MAX_WALLS) {
            return FULL;
        }
        if (meetsAnyWall(x, y, u, v)) {
            return CROSSES;
        }
        int n = wallCount;
        fromX[n] = x;
        fromY[n] = y;
        toX[n] = u;
        toY[n] = v;
        wallCount = n + 1;
        return n;
    }

    public int unbuild() {
        if (wallCount == 0) {
            return NONE;
        }
        wallCount--;
        return wallCount;
    }

    public int walls() {
        return wallCount;
    }

    public int coordinate(int n, int k) {
        if (!isWall(n)) {
            return NONE;
        }
        switch (k) {
            case 0:
                return fromX[n];
            case 1:
                return fromY[n];
            case 2:
                return toX[n];
            case 3:
                return toY[n];
            default:
                return NO_COORDINATE;
        }
    }

    public int look(int x, int y) {
        if (!isInPlane(x) || !isInPlane(y) || isEven(x) || isEven(y)) {
            return BAD_ARG;
        }
        viewX = x;
        viewY = y;
        return 0;
    }

    public int viewpoint() {
        return (viewX + LIMIT) * VIEWPOINT_SCALE + viewY + LIMIT;
    }

    public int seen(int look, int column) {
        if (!isLook(look) || !isColumn(column)) {
            return BAD_ARG;
        }
        return nearestWall(look, column);
    }

    public int depth(int look, int column) {
        if (!isLook(look) || !isColumn(column)) {
            return BAD_ARG;
        }
        int n = nearestWall(look, column);
        if (!isWall(n)) {
            return NONE;
        }
        int dx = rayX(look, column);
        int dy = rayY(look, column);
        int bottom = hitBottom(n, dx, dy);
        // Never so for a wall that is seen: no ray is parallel to a wall.
        if (bottom == 0) {
            return NONE;
        }
        // Both have the same sign at a hit, so that the quotient cut off is the one rounded down.
        return DEPTH_SCALE * hitTop(n) / bottom;
    }

    public int share(int n) {
        if (!isWall(n)) {
            return NONE;
        }
        return raysThatShow(n);
    }

    public int openRays() {
        return raysThatShow(NONE);
    }

    public int visible(int look) {
        if (!isLook(look)) {
            return BAD_ARG;
        }
        int count = 0;
        for (int n = 0; n < wallCount; n++) {
            if (isSeenInLook(n, look)) {
                count++;
            }
        }
        return count;
    }

    public int edge(int look) {
        if (!isLook(look)) {
            return BAD_ARG;
        }
        for (int c = 0; c < COLUMNS - 1; c++) {
            if (nearestWall(look, c) != nearestWall(look, c + 1)) {
                return c;
            }
        }
        return NONE;
    }

    private static boolean isInPlane(int coordinate) {
        return coordinate >= -LIMIT && coordinate <= LIMIT;
    }

    private static boolean isEven(int coordinate) {
        return (coordinate & 1) == 0;
    }

    private static boolean isWallPoint(int x, int y) {
        return isInPlane(x) && isInPlane(y) && isEven(x) && isEven(y);
    }

    private static boolean isLook(int look) {
        return look >= 0 && look < LOOKS;
    }

    private static boolean isColumn(int column) {
        return column >= 0 && column < COLUMNS;
    }

    private boolean isWall(int n) {
        return n >= 0 && n < wallCount;
    }

    private static int cross(int ax, int ay, int bx, int by) {
        return ax * by - ay * bx;
    }

    private boolean meetsAnyWall(int x, int y, int u, int v) {
        for (int n = 0; n < wallCount; n++) {
            if (meetsWall(n, x, y, u, v)) {
                return true;
            }
        }
        return false;
    }

    private boolean meetsWall(int n, int x, int y, int u, int v) {
        int a = fromX[n];
        int b = fromY[n];
        int c = toX[n];
        int d = toY[n];
        // The spans decide between segments on one line, where all four sides below are 0.
        if (!spansMeet(x, u, a, c) || !spansMeet(y, v, b, d)) {
            return false;
        }
        int sideOfFrom = cross(u - x, v - y, a - x, b - y);
        int sideOfTo = cross(u - x, v - y, c - x, d - y);
        int sideOfNewFrom = cross(c - a, d - b, x - a, y - b);
        int sideOfNewTo = cross(c - a, d - b, u - a, v - b);
        return notOnOneSide(sideOfFrom, sideOfTo) && notOnOneSide(sideOfNewFrom, sideOfNewTo);
    }

    private static boolean spansMeet(int a, int b, int c, int d) {
        int lowest = a < b ? a : b;
        int highest = a < b ? b : a;
        return (c >= lowest || d >= lowest) && (c <= highest || d <= highest);
    }

    private static boolean notOnOneSide(int side, int otherSide) {
        return (side <= 0 || otherSide <= 0) && (side >= 0 || otherSide >= 0);
    }

    private static int slant(int column) {
        return 2 * column - (COLUMNS - 1);
    }

    private static int rayX(int look, int column) {
        switch (look) {
            case 0:
                return FORWARD;
            case 1:
                return -slant(column);
            case 2:
                return -FORWARD;
            default:
                return slant(column);
        }
    }

    private static int rayY(int look, int column) {
        switch (look) {
            case 0:
                return slant(column);
            case 1:
                return FORWARD;
            case 2:
                return -slant(column);
            default:
                return -FORWARD;
        }
    }

    // The line of wall n meets the line of the ray at t = hitTop / hitBottom. The two are kept
    // apart so that the t of two walls is compared exactly, before any rounding.
    private int hitTop(int n) {
        return cross(fromX[n] - viewX, fromY[n] - viewY, toX[n] - fromX[n], toY[n] - fromY[n]);
    }

    private int hitBottom(int n, int dx, int dy) {
        return cross(dx, dy, toX[n] - fromX[n], toY[n] - fromY[n]);
    }

    private boolean meetsLineOfRay(int n, int dx, int dy) {
        int sideOfFrom = cross(dx, dy, fromX[n] - viewX, fromY[n] - viewY);
        int sideOfTo = cross(dx, dy, toX[n] - viewX, toY[n] - viewY);
        return notOnOneSide(sideOfFrom, sideOfTo);
    }

    private int nearestWall(int look, int column) {
        int dx = rayX(look, column);
        int dy = rayY(look, column);
        int nearest = NONE;
        int nearestTop = 0;
        int nearestBottom = 1;
        for (int n = 0; n < wallCount; n++) {
            int top = hitTop(n);
            int bottom = hitBottom(n, dx, dy);
            // With bottoms above 0, comparing fractions crosswise keeps its direction.
            if (bottom < 0) {
                top = -top;
                bottom = -bottom;
            }
            boolean isHit = top > 0 && bottom > 0 && meetsLineOfRay(n, dx, dy);
            if (isHit && (nearest == NONE || top * nearestBottom < nearestTop * bottom)) {
                nearest = n;
                nearestTop = top;
                nearestBottom = bottom;
            }
        }
        return nearest;
    }

    private boolean isSeenInLook(int n, int look) {
        for (int column = 0; column < COLUMNS; column++) {
            if (nearestWall(look, column) == n) {
                return true;
            }
        }
        return false;
    }

    private int raysThatShow(int wanted) {
        int count = 0;
        for (int look = 0; look < LOOKS; look++) {
            for (int column = 0; column < COLUMNS; column++) {
                if (nearestWall(look, column) == wanted) {
                    count++;
                }
            }
        }
        return count;
    }
}
