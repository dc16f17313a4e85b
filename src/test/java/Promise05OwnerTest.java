/** Promise 5: owner tells the rectangle of a cell, NONE if it is free, BAD off the sheet. */
public final class Promise05OwnerTest {
    private static final Due due = new Due();

    public static void main(String[] args) {
        everyCell();
        offTheSheetIsBad();
        takenCornersOffTheSheetAreBad();
        due.end();
    }

    private static void everyCell() {
        AtlasPacker sheet = new AtlasPacker(6, 5);
        sheet.place(3, 2, false);
        sheet.place(2, 4, false);
        sheet.place(1, 1, true);
        String[] fromTheTop = {"......", "...11.", "...11.", "00011.", "000112"};
        for (int y = 0; y < 5; y++) {
            for (int x = 0; x < 6; x++) {
                char mark = fromTheTop[4 - y].charAt(x);
                due.is("owner(" + x + ", " + y + ")", sheet.owner(x, y), mark == '.' ? AtlasPacker.NONE : mark - '0');
            }
        }
    }

    private static void offTheSheetIsBad() {
        AtlasPacker sheet = new AtlasPacker(5, 7);
        int[][] off = {
            {-1, 0}, {0, -1}, {5, 0}, {0, 7}, {4, 7}, {5, 6}, {-1, -1}, {5, 7}, {6, 4}, {16, 16},
            {Integer.MIN_VALUE, 0}, {0, Integer.MIN_VALUE}, {Integer.MAX_VALUE, 0}, {0, Integer.MAX_VALUE},
            {Integer.MAX_VALUE, Integer.MAX_VALUE}, {Integer.MIN_VALUE, Integer.MIN_VALUE},
        };
        for (int[] cell : off) {
            due.is("owner(" + cell[0] + ", " + cell[1] + ")", sheet.owner(cell[0], cell[1]), AtlasPacker.BAD);
        }
        due.is("owner(4, 6)", sheet.owner(4, 6), AtlasPacker.NONE);
    }

    private static void takenCornersOffTheSheetAreBad() {
        AtlasPacker sheet = new AtlasPacker(16, 4);
        sheet.place(16, 4, false);
        due.is("owner(15, 3)", sheet.owner(15, 3), 0);
        due.is("owner(16, 3)", sheet.owner(16, 3), AtlasPacker.BAD);
        due.is("owner(15, 4)", sheet.owner(15, 4), AtlasPacker.BAD);
        due.is("owner(3, 1) with twenty", Due.twentyCells().owner(3, 1), 19);
    }
}
