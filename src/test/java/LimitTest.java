/** The first section's limit of 512 calls, and that no call throws, whatever its arguments. */
public final class LimitTest {
    private static final int[] ANY = {
        Integer.MIN_VALUE, Integer.MIN_VALUE + 1, -65536, -145, -144, -13, -12, -2, -1, 0, 1, 2, 11, 12, 13,
        65, 131, 132, 142, 143, 144, 145, 156, 255, 256, 2827, 47291, 48059, 65535, 65536, 1000000,
        Integer.MAX_VALUE - 1, Integer.MAX_VALUE
    };

    public static void main(String[] args) {
        last();
        sameCallAlways();
        noneThrows();
        Check.end();
    }

    private static void last() {
        Check.sentence("An object is used for at most 512 calls: the 512th is answered too");
        Check.due("wall", used511().wall(143, true), true);
        Check.due("wall, refused", used511().wall(144, true), false);
        Check.due("block", used511().block(Grids.ALL, true), 143);
        Check.due("block, refused", used511().block(-1, true), JumpPoints.BAD);
        Check.due("isWall", used511().isWall(13), true);
        Check.due("distance", used511().distance(0, 26), 34);
        Check.due("nearer", used511().nearer(0, 13 + 13, 2), 1);
        Check.due("vital", used511().vital(0, 2, 1), true);
        Check.due("farthest", used511().farthest(0), 160);
        Check.due("reach", used511().reach(0), 143);
        Check.due("at", used511().at(0, 34), 15);
    }

    /** Calls of every kind, 511 in all; then cell 13 is a wall and every other cell free. */
    private static JumpPoints used511() {
        JumpPoints grid = new JumpPoints();
        for (int i = 0; i < 51; i++) {
            grid.wall(i, true);
            grid.block(Grids.ALL, false);
            grid.isWall(i);
            grid.distance(i, 143 - i);
            grid.nearer(i, 0, 143);
            grid.vital(i, i + 26, i + 13);
            grid.farthest(i);
            grid.reach(i);
            grid.at(i, 10);
            grid.distance(i, 200);
        }
        grid.wall(13, true);
        return grid;
    }

    private static void sameCallAlways() {
        Check.sentence("An object is used for at most 512 calls: the same call 512 times");
        JumpPoints wall = new JumpPoints();
        JumpPoints block = new JumpPoints();
        JumpPoints distance = new JumpPoints();
        JumpPoints vital = new JumpPoints();
        JumpPoints at = new JumpPoints();
        for (int call = 1; call <= 512; call++) {
            boolean on = call % 2 == 1;
            Check.due("wall, call " + call, wall.wall(call % 144, on), true);
            Check.due("block, call " + call, block.block(Grids.ALL, on), 144);
            Check.due("distance, call " + call, distance.distance(0, 143), 154);
            Check.due("vital, call " + call, vital.vital(0, 2, 1), true);
            Check.due("at, call " + call, at.at(0, 154), 143);
        }
    }

    private static void noneThrows() {
        Check.sentence("LANGUAGE.md 7: No call may ever throw or fail to end");
        for (int a : ANY) {
            for (int b : ANY) {
                for (int c : ANY) {
                    Check.due("calls with " + a + ", " + b + ", " + c, answersAll(a, b, c), true);
                }
            }
        }
    }

    /** An object for each, in states that these very arguments have made. */
    private static boolean answersAll(int a, int b, int c) {
        JumpPoints grid = new JumpPoints();
        try {
            grid.block(a, true);
            grid.nearer(a, b, c);
            grid.vital(a, b, c);
            grid.wall(b, true);
            grid.isWall(a);
            grid.distance(a, c);
            grid.vital(c, a, b);
            grid.farthest(a);
            grid.reach(a);
            grid.at(a, c);
            return true;
        } catch (RuntimeException thrown) {
            System.out.println(thrown);
            return false;
        }
    }
}
