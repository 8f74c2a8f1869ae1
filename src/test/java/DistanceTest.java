/** Promise 5: distance, and its order of BAD before NONE in promise 11. */
public final class DistanceTest {
    public static void main(String[] args) {
        openGrid();
        aroundWalls();
        longWay();
        outside();
        aWall();
        cutOff();
        badBeforeNone();
        Check.end();
    }

    private static void openGrid() {
        Check.sentence("5: The distance of two cells, in an empty grid");
        for (int from = 0; from < 144; from++) {
            JumpPoints grid = new JumpPoints();
            for (int to = 0; to < 144; to++) {
                int dx = Math.abs(from % 12 - to % 12);
                int dy = Math.abs(from / 12 - to / 12);
                int want = 10 * Math.max(dx, dy) + 4 * Math.min(dx, dy);
                Check.due("distance(" + from + ", " + to + ")", grid.distance(from, to), want);
            }
        }
    }

    private static void aroundWalls() {
        Check.sentence("5: The distance of two cells, around walls");
        JumpPoints grid = Grids.withWalls(13);
        Check.due("round one wall", grid.distance(0, 26), 34);
        grid.block(Grids.box(3, 3, 0, 10), true);
        Check.due("by the gap below", grid.distance(2, 4), 228);
        grid.wall(Grids.cell(3, 5), false);
        Check.due("by the new gap", grid.distance(2, 4), 108);
        grid.wall(Grids.cell(3, 0), false);
        Check.due("straight on", grid.distance(2, 4), 20);
        grid.wall(Grids.cell(3, 0), true);
        Check.due("walled again", grid.distance(2, 4), 108);
    }

    private static void longWay() {
        Check.sentence("5: The distance of two cells, by a way of 66 steps");
        JumpPoints grid = serpent();
        Check.due("there", grid.distance(0, 120), 700);
        Check.due("back", grid.distance(120, 0), 700);
        Check.due("two rows of it", grid.distance(0, 24), 100 + 28 + 100);
    }

    /** Rows 0, 2, .., 10 are free, joined at the right and the left end by turns. */
    private static JumpPoints serpent() {
        JumpPoints grid = new JumpPoints();
        for (int row = 1; row < 12; row += 2) {
            grid.block(Grids.box(0, 11, row, row), true);
        }
        for (int row = 1; row < 10; row += 2) {
            grid.wall(Grids.cell(row % 4 == 1 ? 11 : 0, row), false);
        }
        return grid;
    }

    private static void outside() {
        Check.sentence("5: A number outside 0..143: BAD");
        JumpPoints grid = new JumpPoints();
        for (int cell : Grids.OUTSIDE) {
            Check.due("distance(" + cell + ", 0)", grid.distance(cell, 0), JumpPoints.BAD);
            Check.due("distance(0, " + cell + ")", grid.distance(0, cell), JumpPoints.BAD);
            Check.due("distance twice " + cell, grid.distance(cell, cell), JumpPoints.BAD);
        }
    }

    private static void aWall() {
        Check.sentence("5: or a wall: BAD");
        for (int wall = 0; wall < 144; wall++) {
            JumpPoints grid = Grids.withWalls(wall);
            int other = wall == 7 ? 8 : 7;
            Check.due("distance(" + wall + ", " + other + ")", grid.distance(wall, other), JumpPoints.BAD);
            Check.due("distance(" + other + ", " + wall + ")", grid.distance(other, wall), JumpPoints.BAD);
            Check.due("distance(" + wall + ", itself)", grid.distance(wall, wall), JumpPoints.BAD);
            grid.wall(wall, false);
            Check.due("freed: distance(" + wall + ", itself)", grid.distance(wall, wall), 0);
        }
        JumpPoints full = Grids.full();
        Check.due("full grid", full.distance(0, 143), JumpPoints.BAD);
        Check.due("full grid, the same cell", full.distance(0, 0), JumpPoints.BAD);
    }

    private static void cutOff() {
        Check.sentence("5: one can't get from one to the other: NONE");
        JumpPoints corner = Grids.withWalls(1, 12, 13);
        Check.due("out of the corner", corner.distance(0, 143), JumpPoints.NONE);
        Check.due("into the corner", corner.distance(143, 0), JumpPoints.NONE);
        Check.due("just behind the wall", corner.distance(0, 2), JumpPoints.NONE);
        corner.wall(13, false);
        Check.due("opened", corner.distance(0, 143), 154);
        JumpPoints halves = Grids.cutInTwo();
        Check.due("over the cut", halves.distance(48, 72), JumpPoints.NONE);
        Check.due("on this side", halves.distance(48, 0), 40);
        Check.due("on the other side", halves.distance(72, 143), 130);
    }

    private static void badBeforeNone() {
        Check.sentence("11: distance: BAD is tested before NONE");
        JumpPoints grid = new JumpPoints();
        grid.block(Grids.box(0, 11, 5, 7), true);
        // Row 6 lies between walls: from a free cell one cannot even come beside it.
        Check.due("to a wall out of reach", grid.distance(0, Grids.cell(3, 6)), JumpPoints.BAD);
        Check.due("from a wall out of reach", grid.distance(Grids.cell(3, 6), 0), JumpPoints.BAD);
        Check.due("from wall to wall", grid.distance(60, Grids.cell(3, 7)), JumpPoints.BAD);
        JumpPoints alone = Grids.onlyFree(65);
        for (int cell : Grids.OUTSIDE) {
            Check.due("alone: distance(65, " + cell + ")", alone.distance(65, cell), JumpPoints.BAD);
            Check.due("alone: distance(" + cell + ", 65)", alone.distance(cell, 65), JumpPoints.BAD);
        }
        Check.due("alone, to a wall", alone.distance(65, 0), JumpPoints.BAD);
    }
}
