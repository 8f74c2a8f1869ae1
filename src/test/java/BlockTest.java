/** Promise 3: block. */
public final class BlockTest {
    public static void main(String[] args) {
        rectangle();
        everyRectangle();
        countsChangesAlone();
        everySmallBox();
        greatAndNegative();
        refusedChangesNothing();
        Check.end();
    }

    private static void rectangle() {
        JumpPoints grid = new JumpPoints();
        // Wide and low, so that exchanged x and y would show.
        Check.due("block(2..5, 7..8)", grid.block(Check.box(2, 5, 7, 8), true), 8);
        Check.walls("wide", grid, 86, 87, 88, 89, 98, 99, 100, 101);
        Check.due("freeing its right half", grid.block(Check.box(4, 11, 0, 11), false), 4);
        Check.walls("halved", grid, 86, 87, 98, 99);
    }

    private static void everyRectangle() {
        for (int left = 0; left < 12; left++) {
            for (int right = left; right < 12; right++) {
                for (int low = 0; low < 12; low++) {
                    for (int high = low; high < 12; high++) {
                        oneRectangle(left, right, low, high);
                    }
                }
            }
        }
    }

    private static void oneRectangle(int left, int right, int low, int high) {
        int box = Check.box(left, right, low, high);
        int size = (right - left + 1) * (high - low + 1);
        int[] cells = new int[size];
        int count = 0;
        for (int y = low; y <= high; y++) {
            for (int x = left; x <= right; x++) {
                cells[count++] = Check.cell(x, y);
            }
        }
        JumpPoints grid = new JumpPoints();
        Check.due("block(" + box + ", true)", grid.block(box, true), size);
        Check.walls("block(" + box + ", true)", grid, cells);
        Check.due("block(" + box + ", false)", grid.block(box, false), size);
        Check.walls("block(" + box + ", false)", grid);
    }

    private static void countsChangesAlone() {
        JumpPoints grid = new JumpPoints();
        int box = Check.box(1, 3, 1, 3);
        Check.due("free already", grid.block(box, false), 0);
        grid.wall(Check.cell(2, 2), true);
        grid.wall(Check.cell(4, 4), true);
        Check.due("one is a wall already", grid.block(box, true), 8);
        Check.due("all are walls already", grid.block(box, true), 0);
        Check.due("overlapping", grid.block(Check.box(3, 4, 3, 4), true), 2);
        Check.due("freeing more than there is", grid.block(Check.box(0, 11, 0, 11), false), 12);
    }

    private static void everySmallBox() {
        for (int box = 0; box < 65536; box++) {
            int left = box / 4096;
            int right = box / 256 % 16;
            int low = box / 16 % 16;
            int high = box % 16;
            boolean good = left <= right && right <= 11 && low <= high && high <= 11;
            int want = good ? (right - left + 1) * (high - low + 1) : JumpPoints.BAD;
            Check.due("block(" + box + ", true)", new JumpPoints().block(box, true), want);
        }
    }

    private static final int[] WRONG_BOXES = {
        -1, -4096, -65536, -65536 + 0x1212, Integer.MIN_VALUE, Integer.MIN_VALUE + 0x1212,
        65536, 65536 + 0x1212, 0x40000000, 0x7fff1212, Integer.MAX_VALUE,
        Check.box(5, 4, 0, 0), Check.box(0, 0, 5, 4), Check.box(0, 12, 0, 0),
        Check.box(0, 0, 0, 12), Check.box(12, 12, 0, 0), Check.box(0, 0, 12, 12),
        Check.box(0, 15, 0, 15)
    };

    private static void greatAndNegative() {
        for (int box : WRONG_BOXES) {
            Check.due("block(" + box + ", true)", new JumpPoints().block(box, true), JumpPoints.BAD);
            Check.due("block(" + box + ", false)", new JumpPoints().block(box, false), JumpPoints.BAD);
        }
    }

    private static void refusedChangesNothing() {
        for (int box : WRONG_BOXES) {
            JumpPoints grid = new JumpPoints();
            grid.wall(0, true);
            grid.wall(62, true);
            grid.block(box, true);
            Check.walls("after block(" + box + ", true)", grid, 0, 62);
            grid.block(box, false);
            Check.walls("after block(" + box + ", false)", grid, 0, 62);
        }
    }
}
