/** Promise 8: farthest. */
public final class FarthestTest {
    public static void main(String[] args) {
        greatestDistance();
        canBeComeTo();
        onlyItself();
        outside();
        aWall();
        Check.end();
    }

    private static void greatestDistance() {
        Check.sentence("8: The greatest distance of a cell");
        JumpPoints grid = new JumpPoints();
        for (int from = 0; from < 144; from++) {
            int dx = Math.max(from % 12, 11 - from % 12);
            int dy = Math.max(from / 12, 11 - from / 12);
            int want = 10 * Math.max(dx, dy) + 4 * Math.min(dx, dy);
            Check.due("farthest(" + from + ")", grid.farthest(from), want);
        }
        // The farthest cell is (11, 0) now, come to by (10, 11): eleven diagonal steps, eleven straight.
        JumpPoints pocket = new JumpPoints();
        pocket.block(Grids.box(10, 10, 0, 10), true);
        Check.due("into a pocket", pocket.farthest(0), 264);
    }

    private static void canBeComeTo() {
        Check.sentence("8: that can be come to");
        JumpPoints grid = new JumpPoints();
        grid.block(Grids.box(4, 4, 0, 11), true);
        Check.due("left part", grid.farthest(0), 122);
        Check.due("right part", grid.farthest(143), 134);
        Check.due("right part, from (5, 0)", grid.farthest(5), 134);
        Check.due("left part, from (3, 6)", grid.farthest(75), 72);
    }

    private static void onlyItself() {
        Check.sentence("8: The greatest distance, 0 when no other cell can be come to");
        for (int cell = 0; cell < 144; cell++) {
            Check.due("alone: farthest(" + cell + ")", Grids.onlyFree(cell).farthest(cell), 0);
        }
        Check.due("closed corner", Grids.withWalls(1, 12, 13).farthest(0), 0);
    }

    private static void outside() {
        Check.sentence("8: BAD for a number outside 0..143");
        JumpPoints grid = new JumpPoints();
        for (int cell : Grids.OUTSIDE) {
            Check.due("farthest(" + cell + ")", grid.farthest(cell), JumpPoints.BAD);
        }
    }

    private static void aWall() {
        Check.sentence("8: BAD for a wall");
        JumpPoints full = Grids.full();
        for (int wall = 0; wall < 144; wall++) {
            Check.due("full: farthest(" + wall + ")", full.farthest(wall), JumpPoints.BAD);
            JumpPoints grid = Grids.withWalls(wall);
            Check.due("farthest(" + wall + ")", grid.farthest(wall), JumpPoints.BAD);
        }
    }
}
