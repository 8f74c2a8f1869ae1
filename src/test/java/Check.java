/** Counts the answers that are not as due; every test of the project ends with end(). */
final class Check {
    private static String sentence = "";
    private static int checked = 0;
    private static int wrong = 0;

    private Check() {
    }

    /** Begins the test of one sentence of the document; a wrong answer is told with it. */
    static void sentence(String text) {
        mustHaveChecked();
        sentence = text;
        checked = 0;
    }

    static void due(String call, long got, long want) {
        checked++;
        if (got != want) {
            wrong++;
            System.out.println("[" + sentence + "] " + call + " answered " + got + ", due is " + want);
        }
    }

    static void due(String call, boolean got, boolean want) {
        due(call, got ? 1 : 0, want ? 1 : 0);
    }

    /** Checks every cell: the listed ones must be walls, all others free. */
    static void walls(String when, JumpPoints grid, int... cells) {
        boolean[] want = new boolean[144];
        for (int cell : cells) {
            want[cell] = true;
        }
        for (int cell = 0; cell < 144; cell++) {
            due(when + ": isWall(" + cell + ")", grid.isWall(cell), want[cell]);
        }
    }

    static void end() {
        mustHaveChecked();
        if (wrong != 0 || sentence.isEmpty()) {
            System.out.println(wrong + " answers are not as due");
            System.exit(1);
        }
    }

    /** A sentence whose test checked nothing is not tested. */
    private static void mustHaveChecked() {
        if (!sentence.isEmpty() && checked == 0) {
            wrong++;
            System.out.println("[" + sentence + "] nothing was checked");
        }
    }
}
