/** Promise 5: owner tells the rectangle of a cell, NONE if it is free, BAD off the sheet. */
public final class Promise05OwnerTest {
    private static final Due due = new Due();

    public static void main(String[] args) {
        everyCell();
        numbersFromZeroToNineteen();
        freeCellsHaveNone();
        offTheSheetIsBad();
        offAFullSheetIsBad();
        due.end();
    }

    private static void everyCell() {
        due.sentence("The number of the rectangle that a cell belongs to");
        AtlasPacker sheet = new AtlasPacker(6, 5);
        sheet.place(3, 2, false);
        sheet.place(2, 4, false);
        sheet.place(1, 1, true);
        String[] fromTheTop = {"......", "...11.", "...11.", "00011.", "000112"};
        for (int y = 0; y < 5; y++) {
            for (int x = 0; x < 6; x++) {
                char mark = fromTheTop[4 - y].charAt(x);
                due.is("owner(" + x + ", " + y + ")", sheet.owner(x, y), mark == '.' ? AtlasPacker.NONE : mark - '0');
            }
        }
    }

    private static void numbersFromZeroToNineteen() {
        due.sentence("The number of the rectangle that a cell belongs to");
        AtlasPacker sheet = Due.twentyCells();
        for (int id = 0; id < 20; id++) {
            due.is("owner of the cell of " + id, sheet.owner(id % 16, id / 16), id);
        }
    }

    private static void freeCellsHaveNone() {
        due.sentence("NONE if it is free");
        for (int y = 0; y < 4; y++) {
            for (int x = 0; x < 5; x++) {
                String free = "owner(" + x + ", " + y + ") ";
                due.is(free + "when new", new AtlasPacker(5, 4).owner(x, y), AtlasPacker.NONE);
                due.is(free + "with all others taken", Due.oneCellFree(5, 4, x, y).owner(x, y), AtlasPacker.NONE);
            }
        }
    }

    private static void offTheSheetIsBad() {
        due.sentence("BAD if it is not on the sheet.");
        AtlasPacker sheet = new AtlasPacker(5, 7);
        int[] wrong = {-1, -256, 7, 16, 256, 65536, -65536, 1 << 30, Integer.MIN_VALUE, Integer.MAX_VALUE};
        for (int place : wrong) {
            due.is("owner(" + place + ", 0)", sheet.owner(place, 0), AtlasPacker.BAD);
            due.is("owner(0, " + place + ")", sheet.owner(0, place), AtlasPacker.BAD);
            due.is("owner(" + place + ", " + place + ")", sheet.owner(place, place), AtlasPacker.BAD);
        }
        due.is("owner(5, 0)", sheet.owner(5, 0), AtlasPacker.BAD);
        due.is("owner(5, 6)", sheet.owner(5, 6), AtlasPacker.BAD);
        due.is("owner(4, 7)", sheet.owner(4, 7), AtlasPacker.BAD);
        due.is("owner(4, 6)", sheet.owner(4, 6), AtlasPacker.NONE);
    }

    private static void offAFullSheetIsBad() {
        due.sentence("BAD if it is not on the sheet.");
        AtlasPacker sheet = new AtlasPacker(16, 4);
        sheet.place(16, 4, false);
        due.is("owner(0, 0)", sheet.owner(0, 0), 0);
        due.is("owner(15, 3)", sheet.owner(15, 3), 0);
        for (int x = -1; x <= 16; x++) {
            due.is("owner(" + x + ", -1)", sheet.owner(x, -1), AtlasPacker.BAD);
            due.is("owner(" + x + ", 4)", sheet.owner(x, 4), AtlasPacker.BAD);
        }
        for (int y = -1; y <= 4; y++) {
            due.is("owner(-1, " + y + ")", sheet.owner(-1, y), AtlasPacker.BAD);
            due.is("owner(16, " + y + ")", sheet.owner(16, y), AtlasPacker.BAD);
        }
    }
}
