/** Promises 1, 2 and 4: a new object, wall, isWall. */
public final class WallTest {
    public static void main(String[] args) {
        newObjectIsFree();
        newObjectIsApart();
        makesAWallOrFree();
        outsideIsRefused();
        elseTrue();
        whetherItIsAWall();
        isWallOutside();
        Check.end();
    }

    private static void newObjectIsFree() {
        Check.sentence("1: All cells are free");
        Check.walls("new", new JumpPoints());
        Check.due("new: reach(0)", new JumpPoints().reach(0), 144);
        Check.due("new: block(all, false)", new JumpPoints().block(Grids.ALL, false), 0);
        Check.due("new: block(all, true)", new JumpPoints().block(Grids.ALL, true), 144);
    }

    private static void newObjectIsApart() {
        Check.sentence("1: All cells are free, also when another object has walls");
        JumpPoints before = new JumpPoints();
        JumpPoints full = Grids.full();
        Check.walls("made before", before);
        Check.walls("made after", new JumpPoints());
        before.block(Grids.ALL, false);
        Check.due("the full one stays full", full.block(Grids.ALL, true), 0);
    }

    private static void makesAWallOrFree() {
        Check.sentence("2: Makes a cell a wall (true) or free, from 0 to 143");
        for (int cell = 0; cell < 144; cell++) {
            JumpPoints grid = new JumpPoints();
            Check.due("wall(" + cell + ", true)", grid.wall(cell, true), true);
            Check.walls("walled " + cell, grid, cell);
            Check.due("wall(" + cell + ", false)", grid.wall(cell, false), true);
            Check.walls("freed " + cell, grid);
        }
    }

    private static void outsideIsRefused() {
        Check.sentence("2: cell outside 0..143: refused, answers false");
        for (int cell : Grids.OUTSIDE) {
            JumpPoints grid = new JumpPoints();
            Check.due("wall(" + cell + ", true)", grid.wall(cell, true), false);
            Check.due("wall(" + cell + ", false)", grid.wall(cell, false), false);
            JumpPoints full = Grids.full();
            Check.due("full: wall(" + cell + ", true)", full.wall(cell, true), false);
            Check.due("full: wall(" + cell + ", false)", full.wall(cell, false), false);
        }
    }

    private static void elseTrue() {
        Check.sentence("2: Else true, also for a cell that is so already");
        JumpPoints grid = new JumpPoints();
        for (int cell = 0; cell < 144; cell += 13) {
            Check.due("freeing a free cell", grid.wall(cell, false), true);
            Check.due("stays free", grid.isWall(cell), false);
            Check.due("walling it", grid.wall(cell, true), true);
            Check.due("walling a wall", grid.wall(cell, true), true);
            Check.due("stays a wall", grid.isWall(cell), true);
        }
    }

    private static void whetherItIsAWall() {
        Check.sentence("4: Whether a cell is a wall");
        JumpPoints full = Grids.full();
        JumpPoints open = new JumpPoints();
        for (int cell = 0; cell < 144; cell++) {
            Check.due("full: isWall(" + cell + ")", full.isWall(cell), true);
            Check.due("open: isWall(" + cell + ")", open.isWall(cell), false);
        }
    }

    private static void isWallOutside() {
        Check.sentence("4: false for cell outside 0..143");
        JumpPoints full = Grids.full();
        JumpPoints open = new JumpPoints();
        for (int cell : Grids.OUTSIDE) {
            Check.due("full: isWall(" + cell + ")", full.isWall(cell), false);
            Check.due("open: isWall(" + cell + ")", open.isWall(cell), false);
        }
    }
}
