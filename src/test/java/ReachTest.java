/** Promise 9: reach. */
public final class ReachTest {
    public static void main(String[] args) {
        numberOfCells();
        canBeComeTo();
        itself();
        outside();
        aWall();
        Check.end();
    }

    private static void numberOfCells() {
        Check.sentence("9: The number of cells, all 144 in an empty grid");
        JumpPoints grid = new JumpPoints();
        for (int from = 0; from < 144; from++) {
            Check.due("reach(" + from + ")", grid.reach(from), 144);
        }
        JumpPoints scattered = Grids.withWalls(13, 40, 67, 94, 121);
        Check.due("walls do not count", scattered.reach(0), 139);
    }

    private static void canBeComeTo() {
        Check.sentence("9: that can be come to");
        JumpPoints grid = Grids.cutInTwo();
        Check.due("above the cut", grid.reach(0), 60);
        Check.due("below the cut", grid.reach(143), 72);
        grid.wall(60, false);
        Check.due("through a gap", grid.reach(143), 133);
        grid.wall(60, true);
        Check.due("closed again", grid.reach(143), 72);
    }

    private static void itself() {
        Check.sentence("9: itself among them");
        for (int cell = 0; cell < 144; cell++) {
            Check.due("alone: reach(" + cell + ")", Grids.onlyFree(cell).reach(cell), 1);
        }
        Check.due("closed corner", Grids.withWalls(1, 12, 13).reach(0), 1);
        Check.due("two cells", Grids.onlyFree(65, 78).reach(65), 2);
    }

    private static void outside() {
        Check.sentence("9: BAD as for farthest, a number outside 0..143");
        JumpPoints grid = new JumpPoints();
        for (int cell : Grids.OUTSIDE) {
            Check.due("reach(" + cell + ")", grid.reach(cell), JumpPoints.BAD);
        }
    }

    private static void aWall() {
        Check.sentence("9: BAD as for farthest, a wall");
        JumpPoints full = Grids.full();
        for (int wall = 0; wall < 144; wall++) {
            Check.due("full: reach(" + wall + ")", full.reach(wall), JumpPoints.BAD);
            JumpPoints grid = Grids.withWalls(wall);
            Check.due("reach(" + wall + ")", grid.reach(wall), JumpPoints.BAD);
        }
    }
}
