/** Promise 7: vital. */
public final class VitalTest {
    public static void main(String[] args) {
        longer();
        cutOff();
        notVital();
        falseByRule();
        changesNothing();
        Check.end();
    }

    private static void longer() {
        JumpPoints grid = new JumpPoints();
        Check.due("straight way's middle", grid.vital(0, 2, 1), true);
        Check.due("diagonal way's middle", grid.vital(0, 26, 13), true);
        Check.due("and back", grid.vital(26, 0, 13), true);
        Check.due("a long diagonal", grid.vital(0, 143, 65), true);
    }

    private static void cutOff() {
        JumpPoints grid = new JumpPoints();
        grid.block(Check.box(0, 11, 5, 5), true);
        grid.wall(Check.cell(7, 5), false);
        Check.due("the one gap", grid.vital(0, 143, Check.cell(7, 5)), true);
        Check.due("beside the way", grid.vital(0, 143, Check.cell(0, 11)), false);
        grid.wall(Check.cell(2, 5), false);
        Check.due("a gap that is not needed", grid.vital(0, 132, Check.cell(7, 5)), false);
        Check.due("the gap that is needed", grid.vital(0, 132, Check.cell(2, 5)), true);
    }

    private static void notVital() {
        JumpPoints grid = new JumpPoints();
        Check.due("two ways of one length", grid.vital(0, 25, 13), false);
        Check.due("two ways, the other", grid.vital(0, 25, 12), false);
        Check.due("neighbours", grid.vital(0, 1, 12), false);
        Check.due("from is to", grid.vital(0, 0, 1), false);
        Check.due("far away", grid.vital(0, 2, 143), false);
    }

    private static void falseByRule() {
        JumpPoints grid = new JumpPoints();
        grid.block(Check.box(0, 11, 5, 5), true);
        Check.due("from is a wall", grid.vital(60, 2, 1), false);
        Check.due("to is a wall", grid.vital(0, 60, 1), false);
        Check.due("c is a wall", grid.vital(0, 2, 60), false);
        Check.due("c is from", grid.vital(0, 2, 0), false);
        Check.due("c is to", grid.vital(0, 2, 2), false);
        Check.due("all the same", grid.vital(0, 0, 0), false);
        Check.due("out of reach", grid.vital(0, 143, 1), false);
        for (int cell : Numbers.OUTSIDE) {
            Check.due("vital(" + cell + ", 2, 1)", grid.vital(cell, 2, 1), false);
            Check.due("vital(0, " + cell + ", 1)", grid.vital(0, cell, 1), false);
            Check.due("vital(0, 2, " + cell + ")", grid.vital(0, 2, cell), false);
        }
    }

    private static void changesNothing() {
        JumpPoints grid = new JumpPoints();
        Check.due("first time", grid.vital(0, 2, 1), true);
        Check.due("second time", grid.vital(0, 2, 1), true);
        Check.due("distance after", grid.distance(0, 2), 20);
        Check.walls("after vital", grid);
        Check.due("not vital", grid.vital(0, 25, 13), false);
        Check.walls("after vital that was false", grid);
    }
}
