/** Promise 3: remove frees the cells and answers how many rectangles are left. */
public final class Promise03RemoveTest {
    private static final Due due = new Due();

    public static void main(String[] args) {
        cellsBecomeFree();
        everyCellOfTheWholeSheetBecomesFree();
        wrongNumbersAreBad();
        numbersOfNoRectangleAreBad();
        countsDownFromTwenty();
        countsDownFromTheLowestNumber();
        due.end();
    }

    private static void cellsBecomeFree() {
        due.sentence("Takes rectangle id away; its cells become free.");
        AtlasPacker sheet = new AtlasPacker(8, 8);
        sheet.place(3, 2, false);
        sheet.place(2, 4, false);
        sheet.place(3, 3, false);
        due.is("remove(1)", sheet.remove(1), 2);
        due.is("owner(2, 1)", sheet.owner(2, 1), 0);
        due.is("owner(3, 0)", sheet.owner(3, 0), AtlasPacker.NONE);
        due.is("owner(4, 3)", sheet.owner(4, 3), AtlasPacker.NONE);
        due.is("owner(5, 0)", sheet.owner(5, 0), 2);
        due.is("look(1, 0)", sheet.look(1, 0), AtlasPacker.BAD);
        due.is("freeCells()", sheet.freeCells(), 49);
        due.is("bestPlace(2, 4)", sheet.bestPlace(2, 4), 3);
        due.lies(sheet, 0, 0, 0, 3, 2);
        due.lies(sheet, 2, 5, 0, 3, 3);
    }

    private static void everyCellOfTheWholeSheetBecomesFree() {
        due.sentence("Takes rectangle id away; its cells become free.");
        AtlasPacker sheet = new AtlasPacker(16, 16);
        sheet.place(16, 16, false);
        due.is("remove(0)", sheet.remove(0), 0);
        for (int y = 0; y < 16; y++) {
            for (int x = 0; x < 16; x++) {
                due.is("owner(" + x + ", " + y + ")", sheet.owner(x, y), AtlasPacker.NONE);
            }
        }
    }

    private static void wrongNumbersAreBad() {
        due.sentence("id is not the number of a rectangle on the sheet: BAD.");
        AtlasPacker sheet = Due.twentyCells();
        String before = Due.picture(sheet);
        for (int id : Due.WRONG_NUMBERS) {
            due.is("remove(" + id + ")", sheet.remove(id), AtlasPacker.BAD);
        }
        due.unchanged(before, sheet);
    }

    private static void numbersOfNoRectangleAreBad() {
        due.sentence("id is not the number of a rectangle on the sheet: BAD.");
        AtlasPacker sheet = new AtlasPacker(8, 8);
        due.is("remove(0) when new", sheet.remove(0), AtlasPacker.BAD);
        due.is("remove(19) when new", sheet.remove(19), AtlasPacker.BAD);
        sheet.place(2, 2, false);
        sheet.place(2, 2, false);
        due.is("remove(0)", sheet.remove(0), 1);
        String before = Due.picture(sheet);
        due.is("remove(0) again", sheet.remove(0), AtlasPacker.BAD);
        due.is("remove(2) never placed", sheet.remove(2), AtlasPacker.BAD);
        due.unchanged(before, sheet);
        sheet.clear();
        due.is("remove(1) after clear", sheet.remove(1), AtlasPacker.BAD);
    }

    private static void countsDownFromTwenty() {
        due.sentence("Else answers the number of rectangles left.");
        AtlasPacker sheet = Due.twentyCells();
        for (int id = 19; id >= 0; id--) {
            due.is("remove(" + id + ")", sheet.remove(id), id);
        }
        due.is("freeCells()", sheet.freeCells(), 256);
    }

    private static void countsDownFromTheLowestNumber() {
        due.sentence("Else answers the number of rectangles left.");
        AtlasPacker sheet = Due.twentyCells();
        for (int id = 0; id < 20; id++) {
            due.is("remove(" + id + ")", sheet.remove(id), 19 - id);
        }
        due.is("freeCells()", sheet.freeCells(), 256);
    }
}
