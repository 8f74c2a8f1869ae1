/** Promises 8, 9 and 10: farthest, reach, at; and the order of BAD before NONE in promise 11. */
public final class RegionTest {
    public static void main(String[] args) {
        openGrid();
        alone();
        halves();
        smallestNumber();
        distancesThatAreNone();
        bad();
        Check.end();
    }

    private static void openGrid() {
        JumpPoints grid = new JumpPoints();
        Check.due("farthest from a corner", grid.farthest(0), 154);
        Check.due("farthest from the last corner", grid.farthest(143), 154);
        Check.due("farthest from (5, 5)", grid.farthest(65), 84);
        Check.due("farthest from (0, 6)", grid.farthest(72), 134);
        Check.due("reach of a corner", grid.reach(0), 144);
        Check.due("reach of the last corner", grid.reach(143), 144);
    }

    private static void alone() {
        JumpPoints grid = new JumpPoints();
        grid.block(Check.box(0, 11, 0, 11), true);
        grid.wall(65, false);
        Check.due("alone: farthest", grid.farthest(65), 0);
        Check.due("alone: reach", grid.reach(65), 1);
        Check.due("alone: at 0", grid.at(65, 0), 65);
        Check.due("alone: at 10", grid.at(65, 10), JumpPoints.NONE);
        grid.wall(78, false);
        Check.due("pair: farthest", grid.farthest(65), 14);
        Check.due("pair: reach", grid.reach(65), 2);
        Check.due("pair: at 14", grid.at(65, 14), 78);
    }

    private static void halves() {
        JumpPoints grid = new JumpPoints();
        grid.block(Check.box(4, 4, 0, 11), true);
        Check.due("left: reach", grid.reach(0), 48);
        Check.due("right: reach", grid.reach(143), 84);
        Check.due("left: farthest", grid.farthest(0), 122);
        Check.due("right: farthest", grid.farthest(143), 134);
        Check.due("right from (5, 0): farthest", grid.farthest(5), 134);
        Check.due("cells of the other half do not count", grid.at(143, 110), 11);
    }

    private static void smallestNumber() {
        JumpPoints grid = new JumpPoints();
        Check.due("at 0 is from", grid.at(65, 0), 65);
        Check.due("at 10, above", grid.at(65, 10), 53);
        Check.due("at 14, above and left", grid.at(65, 14), 52);
        Check.due("at 154, the far corner", grid.at(0, 154), 143);
        Check.due("at 110, right before below", grid.at(0, 110), 11);
        grid.wall(53, true);
        Check.due("above is a wall", grid.at(65, 10), 64);
        grid.wall(64, true);
        Check.due("left is a wall too", grid.at(65, 10), 66);
        grid.wall(66, true);
        Check.due("only below is left", grid.at(65, 10), 77);
        grid.wall(77, true);
        Check.due("none is left", grid.at(65, 10), JumpPoints.NONE);
    }

    private static void distancesThatAreNone() {
        JumpPoints grid = new JumpPoints();
        // With cells out of reach and walls, whose marks inside must not be met.
        grid.block(Check.box(0, 11, 5, 5), true);
        // 128 is a sum of tens and fourteens, but beyond this part of the grid.
        int[] none = {1, 4, 5, 12, 13, 18, 155, 156, 128, 999, 1000000, 10000000, 999999999, 1000000000,
            Integer.MAX_VALUE / 2, Integer.MAX_VALUE, -1, -2, -10, Integer.MIN_VALUE,
            Short.MAX_VALUE, 65535, 65536, 127, 255};
        for (int distance : none) {
            Check.due("at(0, " + distance + ")", grid.at(0, distance), JumpPoints.NONE);
        }
        for (int bit = 0; bit < 31; bit++) {
            int power = 1 << bit;
            Check.due("at(0, -" + power + ")", grid.at(0, -power), JumpPoints.NONE);
            Check.due("at(0, " + power + " - 1)", grid.at(0, power - 1), power == 1 ? 0 : JumpPoints.NONE);
        }
    }

    private static void bad() {
        JumpPoints grid = new JumpPoints();
        grid.wall(40, true);
        for (int cell : Numbers.OUTSIDE) {
            badCell(grid, cell);
        }
        badCell(grid, 40);
    }

    private static void badCell(JumpPoints grid, int cell) {
        Check.due("farthest(" + cell + ")", grid.farthest(cell), JumpPoints.BAD);
        Check.due("reach(" + cell + ")", grid.reach(cell), JumpPoints.BAD);
        Check.due("at(" + cell + ", 0)", grid.at(cell, 0), JumpPoints.BAD);
        Check.due("at(" + cell + ", 10)", grid.at(cell, 10), JumpPoints.BAD);
        // No cell has this distance from anywhere: BAD comes first all the same.
        Check.due("at(" + cell + ", 1)", grid.at(cell, 1), JumpPoints.BAD);
        Check.due("at(" + cell + ", -1)", grid.at(cell, -1), JumpPoints.BAD);
    }
}
