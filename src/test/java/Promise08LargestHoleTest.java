/** Promise 8: largestHole is the greatest number of cells of a hole, 0 without one. */
public final class Promise08LargestHoleTest {
    private static final Due due = new Due();

    public static void main(String[] args) {
        theGreatestOfSeveral();
        theWholeSheet();
        oneRowOrOneColumn();
        oneFreeCell();
        theLastOneFound();
        besideATallerColumn();
        zeroWithoutAHole();
        due.end();
    }

    private static void theGreatestOfSeveral() {
        due.sentence("The greatest number of cells of a hole");
        AtlasPacker sheet = new AtlasPacker(8, 6);
        sheet.place(3, 2, false);
        due.is("largestHole() above 3 by 2", sheet.largestHole(), 32);
        sheet.place(1, 3, false);
        due.is("largestHole() with the widest too low", sheet.largestHole(), 24);
        sheet.place(4, 5, false);
        due.is("largestHole() in the narrow rest", sheet.largestHole(), 12);
        sheet.place(4, 3, false);
        due.is("largestHole() with small rests", sheet.largestHole(), 4);
    }

    private static void theWholeSheet() {
        due.sentence("The greatest number of cells of a hole");
        due.is("largestHole() of 4 by 4", new AtlasPacker(4, 4).largestHole(), 16);
        due.is("largestHole() of 8 by 6", new AtlasPacker(8, 6).largestHole(), 48);
        due.is("largestHole() of 16 by 16", new AtlasPacker(16, 16).largestHole(), 256);
    }

    private static void oneRowOrOneColumn() {
        due.sentence("The greatest number of cells of a hole");
        AtlasPacker row = new AtlasPacker(16, 16);
        row.place(16, 15, false);
        due.is("largestHole() of the top row", row.largestHole(), 16);
        AtlasPacker column = new AtlasPacker(16, 16);
        column.place(15, 16, false);
        due.is("largestHole() of the last column", column.largestHole(), 16);
    }

    private static void oneFreeCell() {
        due.sentence("The greatest number of cells of a hole");
        for (int y = 0; y < 4; y++) {
            for (int x = 0; x < 5; x++) {
                due.is("largestHole() with (" + x + ", " + y + ") free", Due.oneCellFree(5, 4, x, y).largestHole(), 1);
            }
        }
        due.is("largestHole() of the last cell", Due.oneCellFree(16, 16, 15, 15).largestHole(), 1);
    }

    // Holes of 4, 2 and 6 cells, the largest at the right, and of 6, 2 and 4, the largest at the left.
    private static void theLastOneFound() {
        due.sentence("The greatest number of cells of a hole");
        due.is("largestHole() at the right", threeHoles(2, 1, 3).largestHole(), 6);
        due.is("largestHole() at the left", threeHoles(3, 1, 2).largestHole(), 6);
    }

    private static AtlasPacker threeHoles(int left, int middle, int right) {
        AtlasPacker sheet = new AtlasPacker(8, 4);
        sheet.place(left, 2, false);
        sheet.place(1, 2, false);
        sheet.place(middle, 2, false);
        sheet.place(1, 2, false);
        sheet.place(right, 2, false);
        sheet.place(8, 2, false);
        sheet.remove(0);
        sheet.remove(2);
        sheet.remove(4);
        return sheet;
    }

    // At the corner of the largest hole begins a free rectangle that is higher, or wider, but smaller.
    private static void besideATallerColumn() {
        due.sentence("The greatest number of cells of a hole");
        due.is("largestHole() with (1, 4) taken", Due.oneCellTaken(6, 5, 1, 4).largestHole(), 24);
        due.is("largestHole() with (1, 0) taken", Due.oneCellTaken(6, 5, 1, 0).largestHole(), 24);
        due.is("largestHole() with (0, 1) taken", Due.oneCellTaken(6, 5, 0, 1).largestHole(), 25);
        due.is("largestHole() with (5, 1) taken", Due.oneCellTaken(6, 5, 5, 1).largestHole(), 25);
        due.is("largestHole() with (2, 2) taken", Due.oneCellTaken(6, 5, 2, 2).largestHole(), 15);
    }

    private static void zeroWithoutAHole() {
        due.sentence("0 if there is no hole.");
        AtlasPacker sheet = new AtlasPacker(8, 6);
        sheet.place(8, 6, false);
        due.is("largestHole() under one rectangle", sheet.largestHole(), 0);
        AtlasPacker twenty = new AtlasPacker(5, 4);
        for (int i = 0; i < 20; i++) {
            twenty.place(1, 1, false);
        }
        due.is("largestHole() under twenty", twenty.largestHole(), 0);
        twenty.remove(19);
        due.is("largestHole() after remove(19)", twenty.largestHole(), 1);
    }
}
