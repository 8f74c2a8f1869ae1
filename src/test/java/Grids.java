/** Numbers and grids that several tests use. */
final class Grids {
    /** The whole grid as a box. */
    static final int ALL = box(0, 11, 0, 11);

    /** Outside of 0..143: the nearest numbers, the farthest, and ones that would wrap to a cell. */
    static final int[] OUTSIDE = {
        -1, -2, -12, -13, -143, -144, 144, 145, 155, 156, 255, 256, 257, 287, 288,
        65535, 65536, 65541, -65536, -65531, 1000000,
        Integer.MAX_VALUE, Integer.MAX_VALUE - 1, Integer.MIN_VALUE, Integer.MIN_VALUE + 5
    };

    private Grids() {
    }

    static int cell(int x, int y) {
        return 12 * y + x;
    }

    static int box(int left, int right, int low, int high) {
        return 4096 * left + 256 * right + 16 * low + high;
    }

    static JumpPoints withWalls(int... cells) {
        JumpPoints grid = new JumpPoints();
        for (int cell : cells) {
            grid.wall(cell, true);
        }
        return grid;
    }

    static JumpPoints full() {
        JumpPoints grid = new JumpPoints();
        grid.block(ALL, true);
        return grid;
    }

    /** Walls everywhere but in these cells. */
    static JumpPoints onlyFree(int... cells) {
        JumpPoints grid = full();
        for (int cell : cells) {
            grid.wall(cell, false);
        }
        return grid;
    }

    /** Row 5 is walls, so that rows 0 to 4 (60 cells) and 6 to 11 (72 cells) are cut off. */
    static JumpPoints cutInTwo() {
        JumpPoints grid = new JumpPoints();
        grid.block(box(0, 11, 5, 5), true);
        return grid;
    }

    /** The length of the step between two cells that are not the same, 0 if they do not touch. */
    static int step(int a, int b) {
        int dx = Math.abs(a % 12 - b % 12);
        int dy = Math.abs(a / 12 - b / 12);
        if (dx > 1 || dy > 1) {
            return 0;
        }
        return dx + dy == 2 ? 14 : 10;
    }
}
