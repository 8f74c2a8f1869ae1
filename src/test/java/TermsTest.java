/** The terms: the cells, the steps between them, the distance. */
public final class TermsTest {
    public static void main(String[] args) {
        numberOfACell();
        twelveByTwelve();
        upToEight();
        thatAreFree();
        lengthOfAStep();
        diagonalIsNotHindered();
        leastSum();
        fromOneToTheOther();
        sameCell();
        Check.end();
    }

    private static void numberOfACell() {
        Check.sentence("Terms: cell (x, y), x and y from 0 to 11, has the number 12 * y + x");
        for (int y = 0; y < 12; y++) {
            for (int x = 0; x < 12; x++) {
                JumpPoints grid = new JumpPoints();
                grid.block(Grids.box(x, x, y, y), true);
                Check.walls("(" + x + ", " + y + ") walled", grid, 12 * y + x);
            }
        }
    }

    private static void twelveByTwelve() {
        Check.sentence("Terms: The grid has 12 by 12 CELLS: a step does not wrap around an edge");
        // Numbers that differ by 1, 11, 13 or 132, as those of neighbours might, in every row and column.
        for (int i = 0; i < 12; i++) {
            apart(Grids.cell(0, i), Grids.cell(11, i));
            apart(Grids.cell(i, 0), Grids.cell(i, 11));
        }
        for (int y = 0; y < 11; y++) {
            apart(Grids.cell(11, y), Grids.cell(0, y + 1));
        }
        for (int y = 0; y < 10; y++) {
            apart(Grids.cell(11, y), Grids.cell(0, y + 2));
        }
        apart(Grids.cell(0, 0), Grids.cell(11, 11));
        apart(Grids.cell(11, 0), Grids.cell(0, 11));
    }

    private static void apart(int a, int b) {
        JumpPoints grid = Grids.onlyFree(a, b);
        Check.due("distance(" + a + ", " + b + ")", grid.distance(a, b), JumpPoints.NONE);
        Check.due("distance(" + b + ", " + a + ")", grid.distance(b, a), JumpPoints.NONE);
    }

    private static void upToEight() {
        Check.sentence("Terms: one can STEP to each of the (up to eight) cells around it");
        for (int cell = 0; cell < 144; cell++) {
            JumpPoints grid = Grids.full();
            int around = 0;
            for (int other = 0; other < 144; other++) {
                if (other == cell || Grids.step(cell, other) > 0) {
                    grid.wall(other, false);
                    around++;
                }
            }
            Check.due("reach(" + cell + ")", grid.reach(cell), around);
            Check.due("farthest(" + cell + ")", grid.farthest(cell), 14);
        }
        Check.due("reach of an inner cell", reachOfSquare(4, 6, 4, 6, 65), 9);
        Check.due("reach of a cell at an edge", reachOfSquare(0, 1, 4, 6, 60), 6);
        Check.due("reach of a corner", reachOfSquare(10, 11, 10, 11, 143), 4);
    }

    private static int reachOfSquare(int left, int right, int low, int high, int from) {
        JumpPoints grid = Grids.full();
        grid.block(Grids.box(left, right, low, high), false);
        return grid.reach(from);
    }

    private static void thatAreFree() {
        Check.sentence("Terms: cells around it that are free");
        JumpPoints ring = Grids.withWalls(52, 53, 54, 64, 66, 76, 77, 78);
        Check.due("reach inside eight walls", ring.reach(65), 1);
        Check.due("reach outside of them", ring.reach(0), 135);
        ring.wall(78, false);
        Check.due("reach through the one that is freed", ring.reach(65), 137);
        JumpPoints corner = Grids.withWalls(1, 12, 13);
        Check.due("reach of a corner behind three walls", corner.reach(0), 1);
    }

    private static void lengthOfAStep() {
        Check.sentence("Terms: same row or column has the length 10, a diagonal one the length 14");
        // Two free cells alone: the step between them, or none, for every pair there is.
        for (int a = 0; a < 144; a++) {
            for (int b = 0; b < 144; b++) {
                if (a != b) {
                    int step = Grids.step(a, b);
                    int want = step > 0 ? step : JumpPoints.NONE;
                    JumpPoints grid = Grids.onlyFree(a, b);
                    Check.due("distance(" + a + ", " + b + ")", grid.distance(a, b), want);
                }
            }
        }
    }

    private static void diagonalIsNotHindered() {
        Check.sentence("Terms: a diagonal step is not hindered by walls beside it");
        int[] diagonal = {52, 54, 76, 78};
        int[][] beside = {{53, 64}, {53, 66}, {64, 77}, {66, 77}};
        for (int i = 0; i < 4; i++) {
            int to = diagonal[i];
            JumpPoints one = Grids.withWalls(beside[i][0]);
            JumpPoints other = Grids.withWalls(beside[i][1]);
            JumpPoints both = Grids.withWalls(beside[i]);
            Check.due("65 to " + to + ", one wall", one.distance(65, to), 14);
            Check.due("65 to " + to + ", the other wall", other.distance(65, to), 14);
            Check.due("65 to " + to + ", both walls", both.distance(65, to), 14);
        }
        Check.due("out of a corner", Grids.withWalls(1, 12).distance(0, 143), 154);
    }

    private static void leastSum() {
        Check.sentence("Terms: the least sum of the lengths of steps");
        // Ten diagonal steps along rows 5 and 6 are 140; twelve steps by row 3 are only 128.
        JumpPoints grid = Grids.full();
        for (int x = 0; x <= 10; x++) {
            grid.wall(Grids.cell(x, x % 2 == 0 ? 5 : 6), false);
        }
        int from = Grids.cell(0, 5);
        int to = Grids.cell(10, 5);
        Check.due("the zigzag alone", grid.distance(from, to), 140);
        grid.block(Grids.box(1, 9, 3, 3), false);
        grid.wall(Grids.cell(0, 4), false);
        grid.wall(Grids.cell(10, 4), false);
        Check.due("more steps, but shorter", grid.distance(from, to), 128);
    }

    private static void fromOneToTheOther() {
        Check.sentence("Terms: steps that lead from one to the other");
        JumpPoints grid = Grids.withWalls(13, 26, 27, 40, 52, 53, 66);
        for (int from = 0; from < 144; from += 11) {
            int to = 143 - from / 2;
            int there = grid.distance(from, to);
            Check.due("distance(" + to + ", " + from + ")", grid.distance(to, from), there);
        }
    }

    private static void sameCell() {
        Check.sentence("Terms: (0 for the same cell)");
        JumpPoints open = new JumpPoints();
        for (int cell = 0; cell < 144; cell++) {
            Check.due("open: distance(" + cell + ", itself)", open.distance(cell, cell), 0);
            JumpPoints alone = Grids.onlyFree(cell);
            Check.due("alone: distance(" + cell + ", itself)", alone.distance(cell, cell), 0);
        }
    }
}
