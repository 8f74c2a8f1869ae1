/** Promise 7: vital. */
public final class VitalTest {
    public static void main(String[] args) {
        greater();
        cutOff();
        notGreater();
        asIfOnly();
        fromOrToIsAWall();
        cIsAWall();
        cIsOneOfTheTwo();
        outside();
        noWay();
        Check.end();
    }

    private static void greater() {
        Check.sentence("7: Whether the distance of from and to would be greater");
        JumpPoints grid = new JumpPoints();
        Check.due("straight", grid.vital(0, 2, 1), true);
        Check.due("diagonal", grid.vital(0, 26, 13), true);
        Check.due("diagonal, back", grid.vital(26, 0, 13), true);
        Check.due("a long diagonal", grid.vital(0, 143, 65), true);
        Check.due("along the last row", grid.vital(132, 143, 137), true);
        JumpPoints gaps = Grids.cutInTwo();
        gaps.wall(Grids.cell(2, 5), false);
        gaps.wall(Grids.cell(7, 5), false);
        Check.due("the nearer of two gaps", gaps.vital(0, 132, Grids.cell(2, 5)), true);
    }

    private static void cutOff() {
        Check.sentence("7: or they would be cut off, if cell c were a wall");
        JumpPoints grid = Grids.cutInTwo();
        grid.wall(Grids.cell(7, 5), false);
        Check.due("the one gap", grid.vital(0, 143, Grids.cell(7, 5)), true);
        Check.due("the one gap, back", grid.vital(143, 0, Grids.cell(7, 5)), true);
        JumpPoints corner = Grids.withWalls(1, 12);
        Check.due("the one way out of a corner", corner.vital(0, 143, 13), true);
        JumpPoints three = Grids.onlyFree(0, 1, 2);
        Check.due("three cells in a row", three.vital(0, 2, 1), true);
    }

    private static void notGreater() {
        Check.sentence("7: Whether the distance would be greater: false when it would not");
        JumpPoints grid = new JumpPoints();
        Check.due("two ways of one length", grid.vital(0, 25, 13), false);
        Check.due("the other of the two", grid.vital(0, 25, 12), false);
        Check.due("neighbours", grid.vital(0, 1, 12), false);
        Check.due("from is to", grid.vital(0, 0, 1), false);
        Check.due("far away", grid.vital(0, 2, 143), false);
        JumpPoints gaps = Grids.cutInTwo();
        gaps.wall(Grids.cell(2, 5), false);
        gaps.wall(Grids.cell(7, 5), false);
        Check.due("a gap that is not needed", gaps.vital(0, 132, Grids.cell(7, 5)), false);
        JumpPoints pair = Grids.onlyFree(0, 1, 143);
        Check.due("a cell that can't be come to", pair.vital(0, 1, 143), false);
    }

    private static void asIfOnly() {
        Check.sentence("7: if cell c were a wall: it does not become one");
        JumpPoints grid = new JumpPoints();
        Check.due("first time", grid.vital(0, 2, 1), true);
        Check.due("second time", grid.vital(0, 2, 1), true);
        Check.due("distance after", grid.distance(0, 2), 20);
        Check.walls("after true", grid);
        Check.due("not vital", grid.vital(0, 25, 13), false);
        Check.walls("after false", grid);
    }

    private static void fromOrToIsAWall() {
        Check.sentence("7: false if from or to is a wall");
        for (int wall = 0; wall < 144; wall++) {
            JumpPoints grid = Grids.withWalls(wall);
            // The cell beside it that leads on towards the middle of the grid.
            int step = (wall % 12 < 6 ? 1 : -1) + (wall / 12 < 6 ? 12 : -12);
            int c = wall + step;
            int end = c + step;
            Check.due("vital(" + wall + ", " + end + ", " + c + ")", grid.vital(wall, end, c), false);
            Check.due("vital(" + end + ", " + wall + ", " + c + ")", grid.vital(end, wall, c), false);
            grid.wall(wall, false);
            Check.due("freed: vital(" + wall + ", " + end + ", " + c + ")", grid.vital(wall, end, c), true);
        }
        Check.due("full grid", Grids.full().vital(0, 2, 1), false);
    }

    private static void cIsAWall() {
        Check.sentence("7: false if c is a wall");
        JumpPoints grid = Grids.withWalls(1);
        Check.due("between the two", grid.vital(0, 2, 1), false);
        grid.wall(1, false);
        Check.due("freed", grid.vital(0, 2, 1), true);
        JumpPoints halves = Grids.cutInTwo();
        Check.due("in a cut", halves.vital(0, 143, 67), false);
        Check.due("beside both", halves.vital(48, 50, 61), false);
    }

    private static void cIsOneOfTheTwo() {
        Check.sentence("7: false if c is one of the two");
        JumpPoints grid = new JumpPoints();
        Check.due("c is from", grid.vital(0, 2, 0), false);
        Check.due("c is to", grid.vital(0, 2, 2), false);
        Check.due("c is from, neighbours", grid.vital(65, 66, 65), false);
        Check.due("c is to, neighbours", grid.vital(65, 66, 66), false);
        Check.due("all three are the same", grid.vital(0, 0, 0), false);
    }

    private static void outside() {
        Check.sentence("7: false if a number is outside 0..143");
        JumpPoints grid = new JumpPoints();
        for (int cell : Grids.OUTSIDE) {
            Check.due("vital(" + cell + ", 2, 1)", grid.vital(cell, 2, 1), false);
            Check.due("vital(0, " + cell + ", 1)", grid.vital(0, cell, 1), false);
            Check.due("vital(0, 2, " + cell + ")", grid.vital(0, 2, cell), false);
            Check.due("vital thrice " + cell, grid.vital(cell, cell, cell), false);
        }
        // As if the numbers went on over the edges of the grid.
        Check.due("before the first", grid.vital(-1, 1, 0), false);
        Check.due("after the last", grid.vital(142, 144, 143), false);
    }

    private static void noWay() {
        Check.sentence("7: false if one can't get from from to to");
        JumpPoints grid = Grids.cutInTwo();
        Check.due("c beside from", grid.vital(0, 143, 1), false);
        Check.due("c beside to", grid.vital(0, 143, 142), false);
        JumpPoints twice = new JumpPoints();
        twice.block(Grids.box(0, 11, 3, 3), true);
        twice.block(Grids.box(0, 11, 7, 7), true);
        twice.wall(Grids.cell(4, 3), false);
        Check.due("the gap in one of two cuts", twice.vital(0, 143, Grids.cell(4, 3)), false);
    }
}
