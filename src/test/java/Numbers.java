/** The same numbers in every run, so that a fault that is found is found again. */
final class Numbers {
    private long state;

    Numbers(long seed) {
        state = seed;
    }

    int below(int bound) {
        state = state * 6364136223846793005L + 1442695040888963407L;
        return (int) ((state >>> 33) % bound);
    }

    int evenCoordinate() {
        return 2 * below(15) - 14;
    }

    int oddCoordinate() {
        return 2 * below(14) - 13;
    }

    int[] wall() {
        int[] wall = new int[4];
        while (wall[0] == wall[2] && wall[1] == wall[3]) {
            for (int k = 0; k < 4; k++) {
                wall[k] = evenCoordinate();
            }
        }
        return wall;
    }

    /** A wall of at most the given width and height, so that many of them find room. */
    int[] shortWall(int size) {
        int[] wall = wall();
        for (int k = 0; k < 2; k++) {
            wall[k + 2] = Math.max(wall[k] - size, Math.min(wall[k] + size, wall[k + 2]));
        }
        return wall;
    }
}
