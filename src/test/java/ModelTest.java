/**
 * All promises: long runs of mixed calls, each answer compared with a second reckoning that is
 * written from the document's terms in another way (relaxing all steps until nothing changes).
 */
public final class ModelTest {
    private static final int RUNS = 120;
    private static final int CALLS = 512;
    private static final int UNREACHED = -7;

    private long seed;
    private final boolean[] walls = new boolean[144];
    private JumpPoints grid;
    private String name;

    public static void main(String[] args) {
        Check.sentence("all promises, in mixed runs");
        for (int run = 0; run < RUNS; run++) {
            new ModelTest().run(run);
        }
        Check.end();
    }

    private void run(int run) {
        seed = 1000003L * run + 17;
        grid = new JumpPoints();
        int calls = 0;
        // Every sixth run starts without walls; the others up to about two thirds full.
        for (int cell = 0; cell < 144; cell++) {
            if (below(15) < run % 6 * 2) {
                walls[cell] = true;
                Check.due("wall", grid.wall(cell, true), true);
                calls++;
            }
        }
        for (; calls < CALLS; calls++) {
            name = "run " + run + ", call " + calls + ": ";
            call(below(16));
        }
    }

    /** The same numbers at every run of the test: it must fail or pass the same way each time. */
    private int below(int bound) {
        seed = seed * 6364136223846793005L + 1442695040888963407L;
        return (int) ((seed >>> 33) % bound);
    }

    private int anyCell() {
        int kind = below(40);
        if (kind == 0) {
            return Grids.OUTSIDE[below(Grids.OUTSIDE.length)];
        }
        int cell = below(144);
        // Most questions are about free cells, or nearly all answers would be BAD.
        for (int tries = 0; tries < 5 && kind > 3 && walls[cell]; tries++) {
            cell = below(144);
        }
        return cell;
    }

    private void call(int kind) {
        switch (kind) {
            case 0 -> wall(below(20) == 0 ? anyCell() : below(144), below(2) == 0);
            case 1 -> block(below(2) == 0);
            case 2 -> isWall(anyCell());
            case 3, 4, 5 -> distance(anyCell(), anyCell());
            case 6, 7 -> nearer(anyCell(), anyCell(), anyCell());
            case 8, 9, 10 -> vital(anyCell(), anyCell(), anyCell());
            case 11 -> farthest(anyCell());
            case 12 -> reach(anyCell());
            case 13 -> vitalNearby(anyCell());
            default -> at(anyCell());
        }
    }

    private boolean free(int cell) {
        return 0 <= cell && cell <= 143 && !walls[cell];
    }

    private int[] reckon(int from) {
        int[] best = new int[144];
        java.util.Arrays.fill(best, UNREACHED);
        best[from] = 0;
        boolean changed = true;
        while (changed) {
            changed = false;
            for (int a = 0; a < 144; a++) {
                for (int b = 0; best[a] != UNREACHED && b < 144; b++) {
                    int length = step(a, b);
                    if (length > 0 && (best[b] == UNREACHED || best[a] + length < best[b])) {
                        best[b] = best[a] + length;
                        changed = true;
                    }
                }
            }
        }
        return best;
    }

    /** The length of the step from one free cell to another, 0 if there is none. */
    private int step(int a, int b) {
        int dx = Math.abs(a % 12 - b % 12);
        int dy = Math.abs(a / 12 - b / 12);
        if (walls[b] || dx > 1 || dy > 1) {
            return 0;
        }
        return dx + dy == 2 ? 14 : 10 * (dx + dy);
    }

    private void wall(int cell, boolean on) {
        boolean good = 0 <= cell && cell <= 143;
        Check.due(name + "wall(" + cell + ", " + on + ")", grid.wall(cell, on), good);
        if (good) {
            walls[cell] = on;
        }
    }

    private void block(boolean on) {
        int left = below(13);
        int right = left + below(4) - (below(8) == 0 ? 2 : 0);
        int low = below(13);
        int high = low + below(4) - (below(8) == 0 ? 2 : 0);
        if (right < 0 || right > 15 || high < 0 || high > 15) {
            return;
        }
        boolean good = left <= right && right <= 11 && low <= high && high <= 11;
        int want = good ? 0 : JumpPoints.BAD;
        for (int cell = 0; good && cell < 144; cell++) {
            int x = cell % 12;
            int y = cell / 12;
            if (left <= x && x <= right && low <= y && y <= high && walls[cell] != on) {
                walls[cell] = on;
                want++;
            }
        }
        int box = Grids.box(left, right, low, high);
        Check.due(name + "block(" + box + ", " + on + ")", grid.block(box, on), want);
    }

    private void isWall(int cell) {
        boolean want = 0 <= cell && cell <= 143 && walls[cell];
        Check.due(name + "isWall(" + cell + ")", grid.isWall(cell), want);
    }

    private void distance(int from, int to) {
        int want = JumpPoints.BAD;
        if (free(from) && free(to)) {
            int length = reckon(from)[to];
            want = length == UNREACHED ? JumpPoints.NONE : length;
        }
        Check.due(name + "distance(" + from + ", " + to + ")", grid.distance(from, to), want);
    }

    private void nearer(int from, int a, int b) {
        int want = JumpPoints.BAD;
        if (free(from) && free(a) && free(b)) {
            int[] lengths = reckon(from);
            boolean second = lengths[b] != UNREACHED && (lengths[a] == UNREACHED || lengths[b] < lengths[a]);
            want = second ? 1 : 0;
        }
        Check.due(name + "nearer(" + from + ", " + a + ", " + b + ")", grid.nearer(from, a, b), want);
    }

    private void vital(int from, int to, int c) {
        boolean want = false;
        if (free(from) && free(to) && free(c) && c != from && c != to) {
            int before = reckon(from)[to];
            walls[c] = true;
            int after = reckon(from)[to];
            walls[c] = false;
            want = before != UNREACHED && (after == UNREACHED || after > before);
        }
        Check.due(name + "vital(" + from + ", " + to + ", " + c + ")", grid.vital(from, to, c), want);
    }

    /** Three cells close together, where the answer is often true. */
    private void vitalNearby(int from) {
        int c = from + below(3) - 1 + 12 * (below(3) - 1);
        int to = c + below(3) - 1 + 12 * (below(3) - 1);
        vital(from, to, c);
    }

    private void farthest(int from) {
        int want = JumpPoints.BAD;
        if (free(from)) {
            for (int length : reckon(from)) {
                want = Math.max(want, length);
            }
        }
        Check.due(name + "farthest(" + from + ")", grid.farthest(from), want);
    }

    private void reach(int from) {
        int want = JumpPoints.BAD;
        if (free(from)) {
            want = 0;
            for (int length : reckon(from)) {
                want += length == UNREACHED ? 0 : 1;
            }
        }
        Check.due(name + "reach(" + from + ")", grid.reach(from), want);
    }

    private void at(int from) {
        int distance = 10 * below(9) + 14 * below(5) - (below(20) == 0 ? 2 : 0);
        int want = JumpPoints.BAD;
        if (free(from)) {
            want = JumpPoints.NONE;
            int[] lengths = reckon(from);
            for (int cell = 143; cell >= 0; cell--) {
                if (lengths[cell] != UNREACHED && lengths[cell] == distance) {
                    want = cell;
                }
            }
        }
        Check.due(name + "at(" + from + ", " + distance + ")", grid.at(from, distance), want);
    }
}
