/** Promise 6: nearer. */
public final class NearerTest {
    public static void main(String[] args) {
        ordinary();
        byLengthNotBySteps();
        outOfReach();
        bad();
        Check.end();
    }

    private static void ordinary() {
        JumpPoints grid = new JumpPoints();
        Check.due("a is nearer", grid.nearer(0, 1, 2), 0);
        Check.due("b is nearer", grid.nearer(0, 2, 1), 1);
        Check.due("both as near", grid.nearer(0, 12, 1), 0);
        Check.due("both as near, turned", grid.nearer(0, 1, 12), 0);
        Check.due("the same cell", grid.nearer(0, 77, 77), 0);
        Check.due("a is from", grid.nearer(5, 5, 6), 0);
        Check.due("b is from", grid.nearer(5, 6, 5), 1);
        Check.due("all the same", grid.nearer(5, 5, 5), 0);
        grid.block(Check.box(1, 1, 0, 10), true);
        Check.due("the wall makes it far", grid.nearer(0, 2, 132), 1);
    }

    private static void byLengthNotBySteps() {
        JumpPoints grid = new JumpPoints();
        // One step each, but 14 and 10.
        Check.due("diagonal against straight", grid.nearer(0, 13, 1), 1);
        // Three diagonal steps are 42, four straight ones 40.
        Check.due("more steps, less length", grid.nearer(0, Check.cell(3, 3), 4), 1);
    }

    private static void outOfReach() {
        JumpPoints grid = new JumpPoints();
        grid.block(Check.box(0, 11, 5, 5), true);
        Check.due("a alone in reach", grid.nearer(0, 11, 72), 0);
        Check.due("b alone in reach", grid.nearer(0, 72, 11), 1);
        Check.due("neither in reach", grid.nearer(0, 143, 72), 0);
        Check.due("neither in reach, turned", grid.nearer(0, 72, 143), 0);
    }

    private static void bad() {
        JumpPoints grid = new JumpPoints();
        grid.wall(40, true);
        grid.block(Check.box(0, 11, 8, 8), true);
        for (int cell : Numbers.OUTSIDE) {
            badCell(grid, cell);
        }
        badCell(grid, 40);
        badCell(grid, 96);
    }

    private static void badCell(JumpPoints grid, int cell) {
        Check.due("nearer(" + cell + ", 1, 2)", grid.nearer(cell, 1, 2), JumpPoints.BAD);
        Check.due("nearer(1, " + cell + ", 2)", grid.nearer(1, cell, 2), JumpPoints.BAD);
        Check.due("nearer(1, 2, " + cell + ")", grid.nearer(1, 2, cell), JumpPoints.BAD);
        // 143 is out of reach: that a number is bad counts first.
        Check.due("nearer(1, 143, " + cell + ")", grid.nearer(1, 143, cell), JumpPoints.BAD);
    }
}
