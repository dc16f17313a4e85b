/** Promise 7: holes counts the free rectangles that are in no other free rectangle. */
public final class Promise07HolesTest {
    private static final Due due = new Due();

    public static void main(String[] args) {
        due.sentence("The number of holes.");
        theWholeSheet();
        noHole();
        oneFreeCell();
        oneAtTheCorner();
        oneInTheMiddle();
        holesThatTouchOnlyAtACorner();
        holesThatCross();
        stairs();
        withTwenty();
        due.end();
    }

    private static void theWholeSheet() {
        due.is("holes() of 4 by 4", new AtlasPacker(4, 4).holes(), 1);
        due.is("holes() of 16 by 16", new AtlasPacker(16, 16).holes(), 1);
        due.is("holes() of 4 by 16", new AtlasPacker(4, 16).holes(), 1);
        due.is("holes() of 16 by 4", new AtlasPacker(16, 4).holes(), 1);
    }

    private static void noHole() {
        AtlasPacker sheet = new AtlasPacker(16, 16);
        sheet.place(16, 16, false);
        due.is("holes() with none free", sheet.holes(), 0);
        sheet.clear();
        due.is("holes() after clear", sheet.holes(), 1);
    }

    private static void oneFreeCell() {
        for (int y = 0; y < 4; y++) {
            for (int x = 0; x < 5; x++) {
                due.is("holes() with (" + x + ", " + y + ") free", Due.oneCellFree(5, 4, x, y).holes(), 1);
            }
        }
        due.is("holes() with the last cell free", Due.oneCellFree(16, 16, 15, 15).holes(), 1);
    }

    private static void oneAtTheCorner() {
        AtlasPacker sheet = new AtlasPacker(8, 8);
        sheet.place(3, 3, false);
        due.is("holes() around a corner", sheet.holes(), 2);
        sheet.place(5, 3, false);
        due.is("holes() above a full row", sheet.holes(), 1);
    }

    private static void oneInTheMiddle() {
        due.is("holes() around the middle", Due.oneCellTaken(5, 5, 2, 2).holes(), 4);
        due.is("holes() around a cell at the left edge", Due.oneCellTaken(5, 5, 0, 2).holes(), 3);
        due.is("holes() around a cell at the top right", Due.oneCellTaken(5, 5, 4, 4).holes(), 2);
    }

    private static void holesThatTouchOnlyAtACorner() {
        AtlasPacker sheet = new AtlasPacker(4, 4);
        sheet.place(2, 2, false);
        sheet.place(2, 2, false);
        sheet.place(2, 2, false);
        sheet.place(2, 2, false);
        due.is("holes() with four quarters", sheet.holes(), 0);
        sheet.remove(1);
        due.is("holes() with one quarter free", sheet.holes(), 1);
        sheet.remove(2);
        due.is("holes() with two quarters free", sheet.holes(), 2);
    }

    // Four taken corners leave a cross: its two arms overlap, and neither is in the other.
    private static void holesThatCross() {
        AtlasPacker sheet = new AtlasPacker(5, 5);
        sheet.place(1, 1, false);
        int below = sheet.place(3, 1, false);
        sheet.place(1, 1, false);
        int between = sheet.place(5, 3, false);
        sheet.place(1, 1, false);
        int above = sheet.place(3, 1, false);
        sheet.place(1, 1, false);
        sheet.remove(below);
        sheet.remove(between);
        sheet.remove(above);
        due.is("freeCells() of the cross", sheet.freeCells(), 21);
        due.is("holes() of the cross", sheet.holes(), 2);
    }

    private static void stairs() {
        AtlasPacker sheet = new AtlasPacker(16, 16);
        for (int height = 15; height >= 1; height--) {
            sheet.place(1, height, false);
        }
        due.is("holes() above stairs", sheet.holes(), 16);
    }

    private static void withTwenty() {
        due.is("holes() with twenty", Due.twentyCells().holes(), 2);
    }
}
