import java.util.ArrayList;
import java.util.HashSet;
import java.util.List;
import java.util.Set;

/** All promises together: long runs of calls, answered by a model that shares no code. */
public final class ModelTest {
    private static final int RUNS = 3000;
    private static final int MOST_CALLS = 512;

    private final List<int[]> walls = new ArrayList<>();
    private final WallBsp b = new WallBsp();
    private final Numbers numbers;
    private final int wallSize;
    private int viewX = 1;
    private int viewY = 1;
    private int calls = 0;

    private ModelTest(int seed) {
        numbers = new Numbers(seed);
        wallSize = 2 + 2 * (seed % 14);
    }

    public static void main(String[] args) {
        for (int seed = 0; seed < RUNS && !Due.anyWrong(); seed++) {
            new ModelTest(seed).run();
        }
        Due.end();
    }

    private void run() {
        while (calls + 260 < MOST_CALLS) {
            for (int i = 0; i < 30; i++) {
                change();
            }
            everyAnswer();
        }
    }

    private void is(String call, int got, int want) {
        calls++;
        Due.is("seen from (" + viewX + ", " + viewY + ") with " + walls.size() + " walls: " + call,
                got, want);
    }

    private void change() {
        int kind = numbers.below(12);
        if (kind == 0) {
            is("unbuild()", b.unbuild(), walls.isEmpty() ? WallBsp.NONE : walls.size() - 1);
            if (!walls.isEmpty()) {
                walls.remove(walls.size() - 1);
            }
        } else if (kind < 3) {
            moveTo(numbers.below(33) - 16, numbers.below(33) - 16);
        } else if (kind == 3) {
            moveTo(numbers.oddCoordinate(), numbers.oddCoordinate());
        } else {
            build(numbers.shortWall(wallSize));
        }
    }

    private void moveTo(int x, int y) {
        boolean good = Math.abs(x) <= 14 && Math.abs(y) <= 14 && x % 2 != 0 && y % 2 != 0;
        is("look(" + x + ", " + y + ")", b.look(x, y), good ? 0 : WallBsp.BAD_ARG);
        viewX = good ? x : viewX;
        viewY = good ? y : viewY;
    }

    private void build(int[] wall) {
        boolean isBad = wall[0] == wall[2] && wall[1] == wall[3];
        if (numbers.below(8) == 0) {
            int k = numbers.below(4);
            wall[k] += numbers.below(2) == 0 ? 1 : wall[k] < 0 ? -16 : 16;
            isBad = isBad || wall[k] % 2 != 0 || Math.abs(wall[k]) > 14;
        }
        int want = isBad ? WallBsp.BAD_ARG : walls.size() == 10 ? WallBsp.FULL
                : walls.stream().anyMatch(other -> CrossModel.meet(wall, other)) ? WallBsp.CROSSES
                : walls.size();
        is("wall", b.wall(wall[0], wall[1], wall[2], wall[3]), want);
        if (want >= 0) {
            walls.add(wall);
        }
    }

    private int wallSeen(int look, int column) {
        int seen = WallBsp.NONE;
        long[] least = {0, 0};
        for (int n = 0; n < walls.size(); n++) {
            long[] t = RayModel.hit(walls.get(n), viewX, viewY, look, column);
            if (t[1] > 0 && (seen < 0 || t[0] * least[1] < least[0] * t[1])) {
                seen = n;
                least = t;
            }
        }
        return seen;
    }

    private void everyAnswer() {
        is("walls()", b.walls(), walls.size());
        is("viewpoint()", b.viewpoint(), (viewX + 14) * 32 + viewY + 14);
        int[] share = new int[10];
        int open = 0;
        for (int look = 0; look < 4; look++) {
            int[] seen = new int[16];
            for (int column = 0; column < 16; column++) {
                seen[column] = wallSeen(look, column);
                oneRay(look, column, seen[column]);
                if (seen[column] >= 0) {
                    share[seen[column]]++;
                } else {
                    open++;
                }
            }
            oneLook(look, seen);
        }
        is("openRays()", b.openRays(), open);
        for (int n = 0; n < 11; n++) {
            is("share(" + n + ")", b.share(n), n < walls.size() ? share[n] : WallBsp.NONE);
            for (int k = 0; k < 5; k++) {
                int want = n >= walls.size() ? WallBsp.NONE : k < 4 ? walls.get(n)[k] : -100;
                is("coordinate(" + n + ", " + k + ")", b.coordinate(n, k), want);
            }
        }
    }

    private void oneRay(int look, int column, int seen) {
        String ray = "(" + look + ", " + column + ")";
        is("seen" + ray, b.seen(look, column), seen);
        int depth = WallBsp.NONE;
        if (seen >= 0) {
            long[] t = RayModel.hit(walls.get(seen), viewX, viewY, look, column);
            depth = (int) Math.floorDiv(1024 * t[0], t[1]);
        }
        is("depth" + ray, b.depth(look, column), depth);
    }

    private void oneLook(int look, int[] seen) {
        Set<Integer> different = new HashSet<>();
        int edge = WallBsp.NONE;
        for (int column = 15; column >= 0; column--) {
            if (seen[column] >= 0) {
                different.add(seen[column]);
            }
            if (column < 15 && seen[column] != seen[column + 1]) {
                edge = column;
            }
        }
        is("visible(" + look + ")", b.visible(look), different.size());
        is("edge(" + look + ")", b.edge(look), edge);
    }
}
