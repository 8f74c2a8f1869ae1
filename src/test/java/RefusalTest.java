/** Promise 11: a refused call, and a call that only asks, leave every cell and every answer as it was. */
public final class RefusalTest {
    private static final int[] WALLS = {13, 14, 25, 40, 100};

    public static void main(String[] args) {
        for (int cell : Numbers.OUTSIDE) {
            refuse(cell);
        }
        refuse(13);
        asking();
        Check.end();
    }

    private static JumpPoints grid() {
        JumpPoints grid = new JumpPoints();
        for (int cell : WALLS) {
            grid.wall(cell, true);
        }
        return grid;
    }

    /** Every call that has to refuse the number, which is outside or the wall 13. */
    private static void refuse(int cell) {
        JumpPoints grid = grid();
        if (cell != 13) {
            Check.due("wall(" + cell + ", true)", grid.wall(cell, true), false);
            Check.due("wall(" + cell + ", false)", grid.wall(cell, false), false);
        }
        Check.due("distance", grid.distance(0, cell), JumpPoints.BAD);
        Check.due("distance", grid.distance(cell, 0), JumpPoints.BAD);
        Check.due("nearer", grid.nearer(cell, 0, 1), JumpPoints.BAD);
        Check.due("nearer", grid.nearer(0, cell, 1), JumpPoints.BAD);
        Check.due("nearer", grid.nearer(0, 1, cell), JumpPoints.BAD);
        Check.due("vital", grid.vital(cell, 0, 1), false);
        Check.due("vital", grid.vital(0, cell, 1), false);
        Check.due("vital", grid.vital(0, 2, cell), false);
        Check.due("farthest", grid.farthest(cell), JumpPoints.BAD);
        Check.due("reach", grid.reach(cell), JumpPoints.BAD);
        Check.due("at", grid.at(cell, 10), JumpPoints.BAD);
        Check.due("block", grid.block(Check.box(3, 2, 0, 11), true), JumpPoints.BAD);
        Check.due("block", grid.block(Check.box(0, 11, 3, 2), false), JumpPoints.BAD);
        unchanged("after refusing " + cell, grid);
    }

    private static void asking() {
        JumpPoints grid = grid();
        grid.distance(0, 143);
        grid.nearer(0, 1, 2);
        grid.vital(0, 2, 1);
        grid.vital(0, 24, 12);
        grid.farthest(5);
        grid.reach(5);
        grid.at(5, 10);
        grid.at(5, 11);
        grid.isWall(5);
        unchanged("after asking", grid);
    }

    private static void unchanged(String when, JumpPoints grid) {
        Check.walls(when, grid, WALLS);
        Check.due(when + ": distance(0, 27)", grid.distance(0, 27), 44);
        Check.due(when + ": reach(0)", grid.reach(0), 139);
    }
}
