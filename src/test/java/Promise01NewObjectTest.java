/** Promise 1: both sides are clamped into 4..16, and all cells are free. */
public final class Promise01NewObjectTest {
    private static final int[] TOO_SMALL = {Integer.MIN_VALUE, -65532, -16, -1, 0, 1, 3};
    private static final int[] TOO_LARGE = {17, 18, 32, 256, 260, 65540, Integer.MAX_VALUE};
    private static final Due due = new Due();

    public static void main(String[] args) {
        rightSidesStayAsTheyAre();
        tooSmallBecomesFour();
        tooLargeBecomesSixteen();
        columnsAndRowsApart();
        allCellsAreFree();
        nothingIsOnTheSheet();
        objectsShareNothing();
        due.end();
    }

    private static void rightSidesStayAsTheyAre() {
        due.sentence("W is columns and H is rows");
        for (int columns = 4; columns <= 16; columns++) {
            for (int rows = 4; rows <= 16; rows++) {
                hasSize(columns, rows, columns, rows);
            }
        }
    }

    private static void tooSmallBecomesFour() {
        due.sentence("each clamped into 4..16: too small");
        for (int small : TOO_SMALL) {
            hasSize(small, 9, 4, 9);
            hasSize(9, small, 9, 4);
            hasSize(small, small, 4, 4);
        }
    }

    private static void tooLargeBecomesSixteen() {
        due.sentence("each clamped into 4..16: too large");
        for (int large : TOO_LARGE) {
            hasSize(large, 9, 16, 9);
            hasSize(9, large, 9, 16);
            hasSize(large, large, 16, 16);
        }
    }

    private static void columnsAndRowsApart() {
        due.sentence("each clamped into 4..16: one too small, the other too large");
        for (int small : TOO_SMALL) {
            for (int large : TOO_LARGE) {
                hasSize(small, large, 4, 16);
                hasSize(large, small, 16, 4);
            }
        }
    }

    // On a sheet of two thousand million columns the last four calls would not end in a day: such a sheet is told at once.
    private static void hasSize(int columns, int rows, int width, int height) {
        String name = "new AtlasPacker(" + columns + ", " + rows + ").";
        AtlasPacker sheet = new AtlasPacker(columns, rows);
        int free = sheet.freeCells();
        due.is(name + "freeCells()", free, width * height);
        if (free != width * height) {
            return;
        }
        due.is(name + "owner at the last cell", sheet.owner(width - 1, height - 1), AtlasPacker.NONE);
        due.is(name + "owner right of it", sheet.owner(width, height - 1), AtlasPacker.BAD);
        due.is(name + "owner above it", sheet.owner(width - 1, height), AtlasPacker.BAD);
        due.is(name + "holes()", sheet.holes(), 1);
        due.is(name + "largestHole()", sheet.largestHole(), width * height);
        due.is(name + "fitting()", sheet.fitting(), width * height);
        due.is(name + "bestPlace of the whole sheet", sheet.bestPlace(width, height), 0);
    }

    private static void allCellsAreFree() {
        due.sentence("All cells are free.");
        for (int side = 3; side <= 17; side++) {
            int clamped = Math.max(4, Math.min(16, side));
            AtlasPacker sheet = new AtlasPacker(side, 20 - side);
            int free = 0;
            for (int y = 0; y < Math.max(4, Math.min(16, 20 - side)); y++) {
                for (int x = 0; x < clamped; x++) {
                    due.is("owner(" + x + ", " + y + ") when new", sheet.owner(x, y), AtlasPacker.NONE);
                    free++;
                }
            }
            due.is("freeCells() when new", sheet.freeCells(), free);
        }
    }

    private static void nothingIsOnTheSheet() {
        due.sentence("All cells are free.");
        AtlasPacker sheet = new AtlasPacker(16, 16);
        for (int id = 0; id < 20; id++) {
            due.is("look(" + id + ", 0) when new", sheet.look(id, 0), AtlasPacker.BAD);
            due.is("remove(" + id + ") when new", sheet.remove(id), AtlasPacker.BAD);
        }
        due.is("clear() when new", sheet.clear(), 0);
    }

    private static void objectsShareNothing() {
        due.sentence("All cells are free.");
        AtlasPacker one = new AtlasPacker(6, 6);
        AtlasPacker other = new AtlasPacker(6, 6);
        one.place(6, 6, false);
        due.is("freeCells() of the other object", other.freeCells(), 36);
        due.is("place on the other object", other.place(6, 6, false), 0);
    }
}
