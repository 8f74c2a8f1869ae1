/** Promise 6: nearer. */
public final class NearerTest {
    public static void main(String[] args) {
        zeroForA();
        bothAsNear();
        neither();
        oneForB();
        onlyOneCanBeComeTo();
        outside();
        aWall();
        Check.end();
    }

    private static void zeroForA() {
        Check.sentence("6: 0 for a");
        JumpPoints grid = new JumpPoints();
        Check.due("one cell nearer", grid.nearer(0, 1, 2), 0);
        Check.due("straight against diagonal", grid.nearer(0, 1, 13), 0);
        Check.due("four straight, 40, against three diagonal, 42", grid.nearer(0, 4, 39), 0);
        Check.due("a is from", grid.nearer(5, 5, 6), 0);
        grid.block(Grids.box(1, 1, 0, 10), true);
        Check.due("b is behind a wall", grid.nearer(0, 132, 2), 0);
    }

    private static void bothAsNear() {
        Check.sentence("6: 0 also when both are as near");
        JumpPoints grid = new JumpPoints();
        Check.due("right and below", grid.nearer(0, 1, 12), 0);
        Check.due("below and right", grid.nearer(0, 12, 1), 0);
        Check.due("70 by straight steps and by diagonal ones", grid.nearer(0, 7, 65), 0);
        Check.due("and the other way about", grid.nearer(0, 65, 7), 0);
        Check.due("the same cell twice", grid.nearer(0, 77, 77), 0);
        Check.due("all the same", grid.nearer(5, 5, 5), 0);
    }

    private static void neither() {
        Check.sentence("6: 0 also when neither can be come to");
        JumpPoints grid = Grids.cutInTwo();
        Check.due("143 and 72", grid.nearer(0, 143, 72), 0);
        Check.due("72 and 143", grid.nearer(0, 72, 143), 0);
        Check.due("the same cell twice", grid.nearer(0, 72, 72), 0);
        JumpPoints corner = Grids.withWalls(1, 12, 13);
        Check.due("from a closed corner", corner.nearer(0, 143, 2), 0);
    }

    private static void oneForB() {
        Check.sentence("6: 1 for b");
        JumpPoints grid = new JumpPoints();
        Check.due("one cell nearer", grid.nearer(0, 2, 1), 1);
        Check.due("diagonal against straight", grid.nearer(0, 13, 1), 1);
        Check.due("three diagonal, 42, against four straight, 40", grid.nearer(0, 39, 4), 1);
        Check.due("b is from", grid.nearer(5, 6, 5), 1);
        grid.block(Grids.box(1, 1, 0, 10), true);
        Check.due("a is behind a wall", grid.nearer(0, 2, 132), 1);
    }

    private static void onlyOneCanBeComeTo() {
        Check.sentence("6: nearer, when only one can be come to");
        JumpPoints grid = Grids.cutInTwo();
        Check.due("a alone", grid.nearer(0, 11, 72), 0);
        Check.due("b alone", grid.nearer(0, 72, 11), 1);
        Check.due("b alone, which is from", grid.nearer(0, 72, 0), 1);
    }

    private static void outside() {
        Check.sentence("6: A number outside 0..143: BAD");
        for (int cell : Grids.OUTSIDE) {
            everyPlace(new JumpPoints(), cell);
        }
    }

    private static void aWall() {
        Check.sentence("6: or a wall: BAD");
        for (int wall = 0; wall < 144; wall++) {
            if (wall != 1 && wall != 2 && wall != 143) {
                everyPlace(Grids.withWalls(wall), wall);
            }
        }
        Check.due("full grid", Grids.full().nearer(0, 1, 2), JumpPoints.BAD);
    }

    private static void everyPlace(JumpPoints grid, int cell) {
        Check.due("nearer(" + cell + ", 1, 2)", grid.nearer(cell, 1, 2), JumpPoints.BAD);
        Check.due("nearer(1, " + cell + ", 2)", grid.nearer(1, cell, 2), JumpPoints.BAD);
        Check.due("nearer(1, 2, " + cell + ")", grid.nearer(1, 2, cell), JumpPoints.BAD);
        Check.due("nearer(1, 1, " + cell + ")", grid.nearer(1, 1, cell), JumpPoints.BAD);
        Check.due("nearer thrice " + cell, grid.nearer(cell, cell, cell), JumpPoints.BAD);
        grid.block(Grids.box(0, 11, 10, 10), true);
        Check.due("143 cut off: nearer(1, 143, " + cell + ")", grid.nearer(1, 143, cell), JumpPoints.BAD);
        Check.due("143 cut off: nearer(1, " + cell + ", 143)", grid.nearer(1, cell, 143), JumpPoints.BAD);
    }
}
