/** Promise 5: distance, and the order of BAD before NONE in promise 11. */
public final class DistanceTest {
    public static void main(String[] args) {
        openGrid();
        noWayAroundTheEdge();
        diagonalBetweenWalls();
        aroundAWall();
        serpent();
        cutOff();
        bad();
        badBeforeNone();
        Check.end();
    }

    private static void openGrid() {
        for (int from = 0; from < 144; from++) {
            JumpPoints grid = new JumpPoints();
            for (int to = 0; to < 144; to++) {
                int dx = Math.abs(from % 12 - to % 12);
                int dy = Math.abs(from / 12 - to / 12);
                int want = 10 * Math.max(dx, dy) + 4 * Math.min(dx, dy);
                Check.due("open: distance(" + from + ", " + to + ")", grid.distance(from, to), want);
            }
        }
    }

    private static void noWayAroundTheEdge() {
        JumpPoints grid = new JumpPoints();
        grid.block(Check.box(5, 5, 0, 11), true);
        Check.due("11 and 12 are no neighbours", grid.distance(11, 12), JumpPoints.NONE);
        Check.due("left part", grid.distance(0, 132), 110);
        Check.due("right part", grid.distance(11, 143), 110);
    }

    private static void diagonalBetweenWalls() {
        JumpPoints grid = new JumpPoints();
        grid.wall(1, true);
        grid.wall(12, true);
        Check.due("between two walls", grid.distance(0, 13), 14);
        Check.due("and back", grid.distance(13, 0), 14);
        grid.wall(14, true);
        Check.due("the other diagonal", grid.distance(13, 2), 14);
    }

    private static void aroundAWall() {
        JumpPoints grid = new JumpPoints();
        grid.wall(13, true);
        Check.due("0 to 26 round one wall", grid.distance(0, 26), 34);
        grid.block(Check.box(3, 3, 0, 10), true);
        Check.due("2 to 4 by the gap below", grid.distance(2, 4), 228);
        grid.wall(Check.cell(3, 5), false);
        Check.due("2 to 4 by the new gap", grid.distance(2, 4), 108);
    }

    private static void serpent() {
        JumpPoints grid = serpentGrid();
        Check.due("serpent, whole", grid.distance(0, 120), 700);
        Check.due("serpent, back", grid.distance(120, 0), 700);
        Check.due("serpent, two rows", grid.distance(0, 24), 100 + 28 + 100);
    }

    /** Rows 0, 2, .., 10 are free, joined at the right and the left end by turns. */
    private static JumpPoints serpentGrid() {
        JumpPoints grid = new JumpPoints();
        for (int row = 1; row < 12; row += 2) {
            grid.block(Check.box(0, 11, row, row), true);
        }
        for (int row = 1; row < 10; row += 2) {
            grid.wall(Check.cell(row % 4 == 1 ? 11 : 0, row), false);
        }
        return grid;
    }

    private static void cutOff() {
        JumpPoints grid = new JumpPoints();
        grid.wall(1, true);
        grid.wall(12, true);
        grid.wall(13, true);
        Check.due("corner to the rest", grid.distance(0, 143), JumpPoints.NONE);
        Check.due("the rest to the corner", grid.distance(143, 0), JumpPoints.NONE);
        Check.due("corner to itself", grid.distance(0, 0), 0);
        grid.wall(13, false);
        Check.due("opened again", grid.distance(0, 143), 154);
    }

    private static void bad() {
        JumpPoints grid = new JumpPoints();
        grid.wall(40, true);
        for (int cell : Numbers.OUTSIDE) {
            Check.due("distance(" + cell + ", 0)", grid.distance(cell, 0), JumpPoints.BAD);
            Check.due("distance(0, " + cell + ")", grid.distance(0, cell), JumpPoints.BAD);
            Check.due("distance twice " + cell, grid.distance(cell, cell), JumpPoints.BAD);
        }
        Check.due("from a wall", grid.distance(40, 0), JumpPoints.BAD);
        Check.due("to a wall", grid.distance(0, 40), JumpPoints.BAD);
        Check.due("a wall to itself", grid.distance(40, 40), JumpPoints.BAD);
    }

    private static void badBeforeNone() {
        JumpPoints grid = new JumpPoints();
        grid.block(Check.box(0, 11, 5, 6), true);
        // The wall in row 6 cannot be come to from row 0 either: BAD comes first.
        Check.due("a wall out of reach", grid.distance(0, Check.cell(3, 6)), JumpPoints.BAD);
        Check.due("outside, with cells cut off", grid.distance(0, 144), JumpPoints.BAD);
        Check.due("free but out of reach", grid.distance(0, 143), JumpPoints.NONE);
    }
}
