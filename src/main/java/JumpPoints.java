/** Shortest ways over a grid with walls. */
public final class JumpPoints {
    public static final int BAD = -1;
    public static final int NONE = -2;

    private static final int SIDE = 12;
    private static final int CELLS = 144;
    private static final int STRAIGHT = 10;
    private static final int DIAGONAL = 14;
    private static final int NO_CELL = -1;
    // Above every distance there can be: a shortest way has at most 143 steps of 14.
    private static final int FAR = 1000000;

    private final boolean[] walls = new boolean[CELLS];
    // What the last call of measure found; no answer relies on an earlier call's measure.
    private final int[] lengths = new int[CELLS];
    private final boolean[] closed = new boolean[CELLS];

    public JumpPoints() {
        // Java fills walls with false, so all cells are free.
    }

    public boolean wall(int cell, boolean on) {
        if (!isCell(cell)) {
            return false;
        }
        walls[cell] = on;
        return true;
    }

    public int block(int box, boolean on) {
        if (box < 0) {
            return BAD;
        }
        // left keeps all the upper bits, so that a box that is too great is seen as such.
        int left = box >> 12;
        int right = (box >> 8) & 15;
        int low = (box >> 4) & 15;
        int high = box & 15;
        if (!isSpan(left, right) || !isSpan(low, high)) {
            return BAD;
        }
        int changed = 0;
        for (int y = low; y <= high; y++) {
            for (int x = left; x <= right; x++) {
                int cell = SIDE * y + x;
                if (walls[cell] != on) {
                    walls[cell] = on;
                    changed++;
                }
            }
        }
        return changed;
    }

    public boolean isWall(int cell) {
        return isCell(cell) && walls[cell];
    }

    public int distance(int from, int to) {
        if (!isFree(from) || !isFree(to)) {
            return BAD;
        }
        measure(from, NO_CELL);
        return lengths[to] < FAR ? lengths[to] : NONE;
    }

    public int nearer(int from, int a, int b) {
        if (!isFree(from) || !isFree(a) || !isFree(b)) {
            return BAD;
        }
        measure(from, NO_CELL);
        return lengths[b] < lengths[a] ? 1 : 0;
    }

    public boolean vital(int from, int to, int c) {
        if (!isFree(from) || !isFree(to) || !isFree(c) || c == from || c == to) {
            return false;
        }
        measure(from, NO_CELL);
        int before = lengths[to];
        measure(from, c);
        // A cell that can't be come to is FAR both times, which makes this false as it must be.
        return lengths[to] > before;
    }

    public int farthest(int from) {
        if (!isFree(from)) {
            return BAD;
        }
        measure(from, NO_CELL);
        int greatest = 0;
        for (int cell = 0; cell < CELLS; cell++) {
            if (lengths[cell] < FAR && lengths[cell] > greatest) {
                greatest = lengths[cell];
            }
        }
        return greatest;
    }

    public int reach(int from) {
        if (!isFree(from)) {
            return BAD;
        }
        measure(from, NO_CELL);
        int count = 0;
        for (int cell = 0; cell < CELLS; cell++) {
            if (lengths[cell] < FAR) {
                count++;
            }
        }
        return count;
    }

    public int at(int from, int distance) {
        if (!isFree(from)) {
            return BAD;
        }
        measure(from, NO_CELL);
        for (int cell = 0; cell < CELLS; cell++) {
            // The first test keeps a caller's FAR from meeting the mark of cells out of reach.
            if (lengths[cell] < FAR && lengths[cell] == distance) {
                return cell;
            }
        }
        return NONE;
    }

    private static boolean isCell(int cell) {
        return cell >= 0 && cell < CELLS;
    }

    private static boolean isSpan(int first, int last) {
        return first >= 0 && first <= last && last < SIDE;
    }

    private boolean isFree(int cell) {
        return isCell(cell) && !walls[cell];
    }

    /** Fills lengths with the distances from a free cell, as if the cell shut were a wall too. */
    private void measure(int from, int shut) {
        for (int cell = 0; cell < CELLS; cell++) {
            lengths[cell] = FAR;
            // Walls are closed from the start, so that no way ever enters them.
            closed[cell] = walls[cell] || cell == shut;
        }
        lengths[from] = 0;
        // Each round closes one cell, so there are no more rounds than cells.
        for (int round = 0; round < CELLS; round++) {
            int cell = nearestOpen();
            if (cell == NO_CELL) {
                break;
            }
            // No way over a cell that is farther off can be shorter: its length is final.
            closed[cell] = true;
            stepAround(cell);
        }
    }

    private int nearestOpen() {
        int nearest = NO_CELL;
        int least = FAR;
        for (int cell = 0; cell < CELLS; cell++) {
            if (!closed[cell] && lengths[cell] < least) {
                nearest = cell;
                least = lengths[cell];
            }
        }
        return nearest;
    }

    private void stepAround(int cell) {
        int x = cell % SIDE;
        int y = cell / SIDE;
        // The cell itself is among the nine, but it is closed by now.
        for (int down = -1; down <= 1; down++) {
            for (int right = -1; right <= 1; right++) {
                int step = down == 0 || right == 0 ? STRAIGHT : DIAGONAL;
                stepTo(x + right, y + down, lengths[cell] + step);
            }
        }
    }

    private void stepTo(int x, int y, int length) {
        if (x < 0 || x >= SIDE || y < 0 || y >= SIDE) {
            return;
        }
        int cell = SIDE * y + x;
        if (!closed[cell] && length < lengths[cell]) {
            lengths[cell] = length;
        }
    }
}
