import java.util.function.Consumer;

/** Promise 11: a call that is refused changes nothing; one test for each method that can refuse. */
public final class RefusalTest {
    private static final int[] WALLS = {13, 14, 25, 40, 100, 120, 121, 133};
    private static final int WALL = 13;
    // The corner behind the last three walls: free, but not to be come to.
    private static final int CLOSED = 132;

    public static void main(String[] args) {
        wall();
        block();
        isWall();
        distance();
        nearer();
        vital();
        farthest();
        reach();
        at();
        Check.end();
    }

    private static void wall() {
        Check.sentence("11: a refused wall changes nothing");
        for (int cell : Grids.OUTSIDE) {
            unchanged("wall(" + cell + ", true)", grid -> grid.wall(cell, true));
            unchanged("wall(" + cell + ", false)", grid -> grid.wall(cell, false));
        }
    }

    private static void block() {
        Check.sentence("11: a refused block changes nothing");
        int[] boxes = {
            -1, -65536, Integer.MIN_VALUE, Integer.MIN_VALUE + Grids.ALL, -65536 + Grids.ALL,
            65536, 65536 + Grids.ALL, 0x7fff0000 + Grids.ALL, Integer.MAX_VALUE,
            Grids.box(1, 0, 0, 11), Grids.box(11, 10, 0, 11), Grids.box(0, 12, 0, 11), Grids.box(12, 12, 0, 11),
            Grids.box(0, 11, 1, 0), Grids.box(0, 11, 11, 10), Grids.box(0, 11, 0, 12), Grids.box(0, 11, 12, 12),
            Grids.box(0, 15, 0, 15)
        };
        for (int box : boxes) {
            unchanged("block(" + box + ", true)", grid -> grid.block(box, true));
            unchanged("block(" + box + ", false)", grid -> grid.block(box, false));
        }
    }

    private static void isWall() {
        Check.sentence("11: isWall outside 0..143 changes nothing");
        for (int cell : Grids.OUTSIDE) {
            unchanged("isWall(" + cell + ")", grid -> grid.isWall(cell));
        }
    }

    private static void distance() {
        Check.sentence("11: a refused distance changes nothing");
        eachRefused(cell -> {
            unchanged("distance(" + cell + ", 0)", grid -> grid.distance(cell, 0));
            unchanged("distance(0, " + cell + ")", grid -> grid.distance(0, cell));
        });
        unchanged("distance without a way", grid -> grid.distance(0, CLOSED));
    }

    private static void nearer() {
        Check.sentence("11: a refused nearer changes nothing");
        eachRefused(cell -> {
            unchanged("nearer(" + cell + ", 0, 1)", grid -> grid.nearer(cell, 0, 1));
            unchanged("nearer(0, " + cell + ", 1)", grid -> grid.nearer(0, cell, 1));
            unchanged("nearer(0, 1, " + cell + ")", grid -> grid.nearer(0, 1, cell));
        });
        unchanged("nearer without a way", grid -> grid.nearer(0, CLOSED, CLOSED));
    }

    private static void vital() {
        Check.sentence("11: a refused vital changes nothing");
        eachRefused(cell -> {
            unchanged("vital(" + cell + ", 2, 1)", grid -> grid.vital(cell, 2, 1));
            unchanged("vital(0, " + cell + ", 1)", grid -> grid.vital(0, cell, 1));
            unchanged("vital(0, 2, " + cell + ")", grid -> grid.vital(0, 2, cell));
        });
        unchanged("vital(0, 2, 0)", grid -> grid.vital(0, 2, 0));
        unchanged("vital(0, 2, 2)", grid -> grid.vital(0, 2, 2));
        unchanged("vital without a way", grid -> grid.vital(0, CLOSED, 1));
    }

    private static void farthest() {
        Check.sentence("11: a refused farthest changes nothing");
        eachRefused(cell -> unchanged("farthest(" + cell + ")", grid -> grid.farthest(cell)));
    }

    private static void reach() {
        Check.sentence("11: a refused reach changes nothing");
        eachRefused(cell -> unchanged("reach(" + cell + ")", grid -> grid.reach(cell)));
    }

    private static void at() {
        Check.sentence("11: a refused at changes nothing");
        eachRefused(cell -> {
            unchanged("at(" + cell + ", 0)", grid -> grid.at(cell, 0));
            unchanged("at(" + cell + ", 10)", grid -> grid.at(cell, 10));
            unchanged("at(" + cell + ", -1)", grid -> grid.at(cell, -1));
        });
        unchanged("at(0, 1)", grid -> grid.at(0, 1));
        unchanged("at(0, -1)", grid -> grid.at(0, -1));
    }

    /** Every number outside, and a wall. */
    private static void eachRefused(Consumer<Integer> test) {
        for (int cell : Grids.OUTSIDE) {
            test.accept(cell);
        }
        test.accept(WALL);
    }

    /** Makes the call on a grid with walls, an empty and a full one, and looks at all that can be asked. */
    private static void unchanged(String call, Consumer<JumpPoints> refused) {
        JumpPoints grid = Grids.withWalls(WALLS);
        refused.accept(grid);
        Check.walls("after " + call, grid, WALLS);
        Check.due("after " + call + ": distance(0, 27)", grid.distance(0, 27), 44);
        Check.due("after " + call + ": reach(0)", grid.reach(0), 135);
        Check.due("after " + call + ": reach(" + CLOSED + ")", grid.reach(CLOSED), 1);
        Check.due("after " + call + ": farthest(143)", grid.farthest(143), 166);
        JumpPoints empty = new JumpPoints();
        refused.accept(empty);
        Check.due("empty, after " + call + ": free cells", empty.block(Grids.ALL, true), 144);
        JumpPoints full = Grids.full();
        refused.accept(full);
        Check.due("full, after " + call + ": walls", full.block(Grids.ALL, false), 144);
    }
}
