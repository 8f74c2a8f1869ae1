/** Counts the answers that are not as due; every test of the project ends with end(). */
final class Check {
    private static int checked = 0;
    private static int wrong = 0;

    private Check() {
    }

    static void due(String call, long got, long want) {
        checked++;
        if (got != want) {
            wrong++;
            System.out.println(call + " answered " + got + ", due is " + want);
        }
    }

    static void due(String call, boolean got, boolean want) {
        due(call, got ? 1 : 0, want ? 1 : 0);
    }

    /** Checks every cell: the listed ones must be walls, all others free. */
    static void walls(String when, JumpPoints grid, int... cells) {
        boolean[] want = new boolean[144];
        for (int cell : cells) {
            want[cell] = true;
        }
        for (int cell = 0; cell < 144; cell++) {
            due(when + ": isWall(" + cell + ")", grid.isWall(cell), want[cell]);
        }
    }

    static int cell(int x, int y) {
        return 12 * y + x;
    }

    static int box(int left, int right, int low, int high) {
        return 4096 * left + 256 * right + 16 * low + high;
    }

    /** A test that checked nothing has failed too. */
    static void end() {
        if (wrong != 0 || checked == 0) {
            System.out.println(wrong + " of " + checked + " answers are not as due");
            System.exit(1);
        }
    }
}
