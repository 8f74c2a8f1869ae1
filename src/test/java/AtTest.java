/** Promise 10: at, and its order of BAD before NONE in promise 11. */
public final class AtTest {
    public static void main(String[] args) {
        smallestNumber();
        exactly();
        zero();
        none();
        noneForAnyOtherNumber();
        cutOffDoesNotCount();
        outside();
        aWall();
        badBeforeNone();
        Check.end();
    }

    private static void smallestNumber() {
        Check.sentence("10: The smallest number of a cell");
        JumpPoints grid = new JumpPoints();
        Check.due("right before below", grid.at(0, 110), 11);
        Check.due("above and left", grid.at(65, 14), 52);
        Check.due("above", grid.at(65, 10), 53);
        grid.wall(53, true);
        Check.due("above is a wall", grid.at(65, 10), 64);
        grid.wall(64, true);
        Check.due("left is a wall too", grid.at(65, 10), 66);
        grid.wall(66, true);
        Check.due("only below is left", grid.at(65, 10), 77);
        Check.due("the last cell", new JumpPoints().at(0, 154), 143);
        Check.due("the first cell", new JumpPoints().at(143, 154), 0);
    }

    private static void exactly() {
        Check.sentence("10: with exactly this distance");
        JumpPoints grid = new JumpPoints();
        int[] between = {1, 9, 11, 13, 15, 19, 21, 23, 25, 153, 155};
        for (int distance : between) {
            Check.due("at(0, " + distance + ")", grid.at(0, distance), JumpPoints.NONE);
        }
        Check.due("at(0, 10)", grid.at(0, 10), 1);
        Check.due("at(0, 14)", grid.at(0, 14), 13);
        Check.due("at(0, 20)", grid.at(0, 20), 2);
        Check.due("at(0, 24)", grid.at(0, 24), 14);
        // A way of 20 leads to cell 13 too, but its distance is 14.
        Check.due("two free ways", Grids.onlyFree(0, 1, 13).at(0, 20), JumpPoints.NONE);
    }

    private static void zero() {
        Check.sentence("10: distance 0 is the cell itself");
        JumpPoints open = new JumpPoints();
        for (int cell = 0; cell < 144; cell++) {
            Check.due("open: at(" + cell + ", 0)", open.at(cell, 0), cell);
            Check.due("alone: at(" + cell + ", 0)", Grids.onlyFree(cell).at(cell, 0), cell);
        }
    }

    private static void none() {
        Check.sentence("10: NONE if there is none");
        JumpPoints grid = Grids.withWalls(53, 64, 66, 77);
        Check.due("all four beside are walls", grid.at(65, 10), JumpPoints.NONE);
        Check.due("but a diagonal one is free", grid.at(65, 14), 52);
        JumpPoints alone = Grids.onlyFree(65);
        Check.due("alone, 10", alone.at(65, 10), JumpPoints.NONE);
        Check.due("alone, 14", alone.at(65, 14), JumpPoints.NONE);
        Check.due("beyond the farthest", new JumpPoints().at(0, 164), JumpPoints.NONE);
    }

    private static void noneForAnyOtherNumber() {
        Check.sentence("10: NONE if there is none, for a distance negative or too large");
        // With walls and cells cut off, so that no mark inside for these is taken for a distance.
        JumpPoints grid = Grids.cutInTwo();
        int[] never = {-1, -2, -7, -10, -14, Integer.MIN_VALUE, Integer.MIN_VALUE + 10, Integer.MAX_VALUE,
            Integer.MAX_VALUE / 2, 255, 999, 1000, 9999, 10000, 99999, 100000, 999999, 1000000, 1000001,
            9999999, 10000000, 99999999, 100000000, 999999999, 1000000000, 65536 + 10, -65536 + 10};
        for (int distance : never) {
            Check.due("at(0, " + distance + ")", grid.at(0, distance), JumpPoints.NONE);
        }
        for (int bit = 8; bit < 31; bit++) {
            int power = 1 << bit;
            Check.due("at(0, " + power + ")", grid.at(0, power), JumpPoints.NONE);
            Check.due("at(0, " + power + " - 1)", grid.at(0, power - 1), JumpPoints.NONE);
            Check.due("at(0, " + power + " + 10)", grid.at(0, power + 10), JumpPoints.NONE);
            Check.due("at(0, -" + power + ")", grid.at(0, -power), JumpPoints.NONE);
            Check.due("at(0, -" + power + " + 10)", grid.at(0, 10 - power), JumpPoints.NONE);
        }
    }

    private static void cutOffDoesNotCount() {
        Check.sentence("10: this distance from a cell: none for cells that can't be come to");
        JumpPoints grid = Grids.cutInTwo();
        Check.due("from above the cut", grid.at(48, 20), 24);
        Check.due("from below the cut", grid.at(74, 20), 72);
        Check.due("the last above the cut", grid.at(0, 126), 59);
        Check.due("the farthest below the cut", grid.at(143, 130), 72);
        Check.due("where (11, 6) would be", grid.at(0, 134), JumpPoints.NONE);
        Check.due("where the last cell would be", grid.at(0, 154), JumpPoints.NONE);
    }

    private static void outside() {
        Check.sentence("10: BAD as for farthest, a number outside 0..143");
        JumpPoints grid = new JumpPoints();
        for (int cell : Grids.OUTSIDE) {
            Check.due("at(" + cell + ", 0)", grid.at(cell, 0), JumpPoints.BAD);
            Check.due("at(" + cell + ", 10)", grid.at(cell, 10), JumpPoints.BAD);
        }
    }

    private static void aWall() {
        Check.sentence("10: BAD as for farthest, a wall");
        for (int wall = 0; wall < 144; wall++) {
            JumpPoints grid = Grids.withWalls(wall);
            Check.due("at(" + wall + ", 0)", grid.at(wall, 0), JumpPoints.BAD);
            Check.due("at(" + wall + ", 10)", grid.at(wall, 10), JumpPoints.BAD);
        }
    }

    private static void badBeforeNone() {
        Check.sentence("11: at: BAD is tested before NONE");
        int[] never = {1, -1, -2, 165, 1000000, Integer.MAX_VALUE, Integer.MIN_VALUE};
        JumpPoints grid = Grids.withWalls(40);
        for (int distance : never) {
            for (int cell : Grids.OUTSIDE) {
                Check.due("at(" + cell + ", " + distance + ")", grid.at(cell, distance), JumpPoints.BAD);
            }
            Check.due("at(40, " + distance + ")", grid.at(40, distance), JumpPoints.BAD);
            Check.due("full: at(0, " + distance + ")", Grids.full().at(0, distance), JumpPoints.BAD);
        }
    }
}
