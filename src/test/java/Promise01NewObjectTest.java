/** Promise 1: both sides are clamped into 4..16, and all cells are free. */
public final class Promise01NewObjectTest {
    private static final Due due = new Due();

    public static void main(String[] args) {
        int[][] sides = {
            {Integer.MIN_VALUE, 4}, {-16, 4}, {0, 4}, {3, 4}, {4, 4}, {5, 5}, {9, 9},
            {15, 15}, {16, 16}, {17, 16}, {256, 16}, {Integer.MAX_VALUE, 16},
        };
        for (int[] columns : sides) {
            for (int[] rows : sides) {
                hasSize(columns[0], rows[0], columns[1], rows[1]);
            }
        }
        objectsShareNothing();
        due.end();
    }

    private static void hasSize(int columns, int rows, int width, int height) {
        String name = "new AtlasPacker(" + columns + ", " + rows + ").";
        AtlasPacker sheet = new AtlasPacker(columns, rows);
        due.is(name + "freeCells()", sheet.freeCells(), width * height);
        due.is(name + "owner at the last cell", sheet.owner(width - 1, height - 1), AtlasPacker.NONE);
        due.is(name + "owner right of it", sheet.owner(width, height - 1), AtlasPacker.BAD);
        due.is(name + "owner above it", sheet.owner(width - 1, height), AtlasPacker.BAD);
        due.is(name + "holes()", sheet.holes(), 1);
        due.is(name + "largestHole()", sheet.largestHole(), width * height);
        due.is(name + "fitting()", sheet.fitting(), width * height);
        due.is(name + "bestPlace of the whole sheet", sheet.bestPlace(width, height), 0);
        for (int id = 0; id < 20; id++) {
            due.is(name + "look(" + id + ", 0)", sheet.look(id, 0), AtlasPacker.BAD);
        }
        due.is(name + "clear()", sheet.clear(), 0);
        everyCellIsFree(columns, rows, width, height);
    }

    private static void everyCellIsFree(int columns, int rows, int width, int height) {
        AtlasPacker sheet = new AtlasPacker(columns, rows);
        for (int y = 0; y < height; y++) {
            for (int x = 0; x < width; x++) {
                due.is("owner(" + x + ", " + y + ") when new", sheet.owner(x, y), AtlasPacker.NONE);
            }
        }
    }

    private static void objectsShareNothing() {
        AtlasPacker one = new AtlasPacker(6, 6);
        AtlasPacker other = new AtlasPacker(6, 6);
        one.place(6, 6, false);
        due.is("freeCells() of the other object", other.freeCells(), 36);
        due.is("place on the other object", other.place(6, 6, false), 0);
    }
}
