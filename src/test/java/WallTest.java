/** Promises 1, 2 and 4: a new object, wall, isWall. */
public final class WallTest {
    public static void main(String[] args) {
        newObject();
        objectsAreApart();
        everyCell();
        sameAgain();
        outside();
        Check.end();
    }

    private static void newObject() {
        JumpPoints grid = new JumpPoints();
        Check.walls("new", grid);
        Check.due("new: reach(0)", grid.reach(0), 144);
        Check.due("new: block(all, false)", grid.block(Check.box(0, 11, 0, 11), false), 0);
        Check.due("new: block(all, true)", grid.block(Check.box(0, 11, 0, 11), true), 144);
    }

    private static void objectsAreApart() {
        JumpPoints one = new JumpPoints();
        JumpPoints other = new JumpPoints();
        one.wall(7, true);
        Check.walls("one", one, 7);
        Check.walls("other", other);
        Check.walls("made later", new JumpPoints());
    }

    private static void everyCell() {
        for (int cell = 0; cell < 144; cell++) {
            JumpPoints grid = new JumpPoints();
            Check.due("wall(" + cell + ", true)", grid.wall(cell, true), true);
            Check.walls("walled " + cell, grid, cell);
            Check.due("wall(" + cell + ", false)", grid.wall(cell, false), true);
            Check.walls("freed " + cell, grid);
        }
    }

    private static void sameAgain() {
        JumpPoints grid = new JumpPoints();
        Check.due("freeing a free cell", grid.wall(30, false), true);
        Check.walls("free stays free", grid);
        grid.wall(30, true);
        Check.due("walling a wall", grid.wall(30, true), true);
        Check.walls("wall stays wall", grid, 30);
    }

    private static void outside() {
        for (int cell : Numbers.OUTSIDE) {
            JumpPoints grid = new JumpPoints();
            grid.wall(50, true);
            Check.due("wall(" + cell + ", true)", grid.wall(cell, true), false);
            Check.due("isWall(" + cell + ")", grid.isWall(cell), false);
            Check.walls("after wall(" + cell + ", true)", grid, 50);
            Check.due("wall(" + cell + ", false)", grid.wall(cell, false), false);
            Check.walls("after wall(" + cell + ", false)", grid, 50);
        }
        JumpPoints full = new JumpPoints();
        full.block(Check.box(0, 11, 0, 11), true);
        for (int cell : Numbers.OUTSIDE) {
            Check.due("all walls: isWall(" + cell + ")", full.isWall(cell), false);
        }
    }
}
