/** Promise 3: block. */
public final class BlockTest {
    public static void main(String[] args) {
        rectangle();
        bothIncluded();
        wallsOrFree();
        negative();
        leftAboveRight();
        rightAbove11();
        lowAboveHigh();
        highAbove11();
        leftAbove15();
        everySmallBox();
        howManyChanged();
        noneChanged();
        Check.end();
    }

    private static void rectangle() {
        Check.sentence("3: all cells of the rectangle from (left, low) to (right, high)");
        JumpPoints wide = new JumpPoints();
        wide.block(Grids.box(2, 5, 7, 8), true);
        Check.walls("wide", wide, 86, 87, 88, 89, 98, 99, 100, 101);
        JumpPoints tall = new JumpPoints();
        tall.block(Grids.box(7, 8, 2, 5), true);
        Check.walls("tall", tall, 31, 32, 43, 44, 55, 56, 67, 68);
    }

    private static void bothIncluded() {
        Check.sentence("3: both included");
        for (int left = 0; left < 12; left++) {
            for (int right = left; right < 12; right++) {
                for (int low = 0; low < 12; low++) {
                    for (int high = low; high < 12; high++) {
                        oneRectangle(left, right, low, high);
                    }
                }
            }
        }
    }

    private static void oneRectangle(int left, int right, int low, int high) {
        int box = Grids.box(left, right, low, high);
        int size = (right - left + 1) * (high - low + 1);
        int[] cells = new int[size];
        int count = 0;
        for (int y = low; y <= high; y++) {
            for (int x = left; x <= right; x++) {
                cells[count++] = Grids.cell(x, y);
            }
        }
        JumpPoints grid = new JumpPoints();
        Check.due("block(" + box + ", true)", grid.block(box, true), size);
        Check.walls("block(" + box + ", true)", grid, cells);
        Check.due("block(" + box + ", false)", grid.block(box, false), size);
        Check.walls("block(" + box + ", false)", grid);
    }

    private static void wallsOrFree() {
        Check.sentence("3: Makes all cells walls or free");
        JumpPoints grid = Grids.withWalls(86, 87, 88, 89);
        Check.due("walling", grid.block(Grids.box(3, 4, 6, 7), true), 2);
        Check.walls("walled", grid, 75, 76, 86, 87, 88, 89);
        Check.due("freeing", grid.block(Grids.box(4, 11, 0, 11), false), 3);
        Check.walls("freed", grid, 75, 86, 87);
    }

    private static void negative() {
        Check.sentence("3: box negative: BAD");
        int[] boxes = {-1, -2, -15, -16, -256, -4096, -65536, Integer.MIN_VALUE};
        for (int box : boxes) {
            bad(box);
        }
        // Below their sign these bits are boxes of the grid.
        int[] good = {0, 1, 0x0b0b, 0x1212, 0xbbbb, 0x5959};
        for (int box : good) {
            bad(Integer.MIN_VALUE + box);
            bad(-65536 + box);
            bad(-1048576 + box);
        }
    }

    private static void leftAboveRight() {
        Check.sentence("3: not left <= right: BAD");
        for (int right = 0; right < 11; right++) {
            bad(Grids.box(right + 1, right, 0, 0));
            bad(Grids.box(11, right, 3, 8));
        }
        for (int left = 12; left < 16; left++) {
            bad(Grids.box(left, 11, 0, 11));
        }
        good(Grids.box(11, 11, 0, 0), 1);
    }

    private static void rightAbove11() {
        Check.sentence("3: not right <= 11: BAD");
        for (int right = 12; right < 16; right++) {
            bad(Grids.box(0, right, 0, 0));
            bad(Grids.box(11, right, 0, 11));
            bad(Grids.box(right, right, 5, 5));
        }
        good(Grids.box(0, 11, 0, 0), 12);
    }

    private static void lowAboveHigh() {
        Check.sentence("3: not low <= high: BAD");
        for (int high = 0; high < 11; high++) {
            bad(Grids.box(0, 0, high + 1, high));
            bad(Grids.box(3, 8, 11, high));
        }
        for (int low = 12; low < 16; low++) {
            bad(Grids.box(0, 11, low, 11));
        }
        good(Grids.box(0, 0, 11, 11), 1);
    }

    private static void highAbove11() {
        Check.sentence("3: not high <= 11: BAD");
        for (int high = 12; high < 16; high++) {
            bad(Grids.box(0, 0, 0, high));
            bad(Grids.box(0, 11, 11, high));
            bad(Grids.box(5, 5, high, high));
        }
        good(Grids.box(0, 0, 0, 11), 12);
    }

    private static void leftAbove15() {
        Check.sentence("3: box too large, left above 15: BAD");
        int[] good = {0, 1, 0x0b0b, 0x1212, 0xbbbb, 0x5959};
        for (int box : good) {
            for (int bit = 16; bit < 31; bit++) {
                bad((1 << bit) + box);
            }
            bad(0x7fff0000 + box);
        }
        bad(65535);
        bad(Integer.MAX_VALUE);
    }

    private static void everySmallBox() {
        Check.sentence("3: 0 <= left <= right <= 11 and 0 <= low <= high <= 11, every box below 65536");
        for (int box = 0; box < 65536; box++) {
            int left = box / 4096;
            int right = box / 256 % 16;
            int low = box / 16 % 16;
            int high = box % 16;
            boolean isGood = left <= right && right <= 11 && low <= high && high <= 11;
            if (isGood) {
                good(box, (right - left + 1) * (high - low + 1));
            } else {
                bad(box);
            }
        }
    }

    private static void howManyChanged() {
        Check.sentence("3: answers how many cells changed");
        JumpPoints grid = Grids.withWalls(Grids.cell(2, 2), Grids.cell(4, 4));
        Check.due("one is a wall already", grid.block(Grids.box(1, 3, 1, 3), true), 8);
        Check.due("overlapping", grid.block(Grids.box(3, 4, 3, 4), true), 2);
        Check.due("freeing part", grid.block(Grids.box(1, 1, 0, 11), false), 3);
        Check.due("freeing all", grid.block(Grids.ALL, false), 9);
        Check.due("the whole grid", grid.block(Grids.ALL, true), 144);
        Check.due("one cell", grid.block(Grids.box(11, 11, 11, 11), false), 1);
        Check.due("the whole grid but one", grid.block(Grids.ALL, false), 143);
    }

    private static void noneChanged() {
        Check.sentence("3: answers how many cells changed, 0 when all are so already");
        Check.due("free already", new JumpPoints().block(Grids.box(1, 3, 1, 3), false), 0);
        Check.due("all free already", new JumpPoints().block(Grids.ALL, false), 0);
        Check.due("walls already", Grids.full().block(Grids.box(1, 3, 1, 3), true), 0);
        Check.due("all walls already", Grids.full().block(Grids.ALL, true), 0);
    }

    private static void bad(int box) {
        Check.due("block(" + box + ", true)", new JumpPoints().block(box, true), JumpPoints.BAD);
        Check.due("block(" + box + ", false)", new JumpPoints().block(box, false), JumpPoints.BAD);
    }

    private static void good(int box, int size) {
        Check.due("block(" + box + ", true)", new JumpPoints().block(box, true), size);
        Check.due("block(" + box + ", false)", new JumpPoints().block(box, false), 0);
    }
}
