/** Promise 3: remove frees the cells and answers how many rectangles are left. */
public final class Promise03RemoveTest {
    private static final Due due = new Due();

    public static void main(String[] args) {
        wrongNumbersAreBad();
        cellsBecomeFree();
        countsDownFromTwenty();
        due.end();
    }

    private static void wrongNumbersAreBad() {
        AtlasPacker sheet = new AtlasPacker(8, 8);
        due.is("remove(0) when new", sheet.remove(0), AtlasPacker.BAD);
        sheet.place(2, 2, false);
        for (int id : Due.WRONG_NUMBERS) {
            due.is("remove(" + id + ")", sheet.remove(id), AtlasPacker.BAD);
        }
        due.is("remove(1)", sheet.remove(1), AtlasPacker.BAD);
        due.is("freeCells()", sheet.freeCells(), 60);
        due.is("remove(0)", sheet.remove(0), 0);
        due.is("remove(0) again", sheet.remove(0), AtlasPacker.BAD);
    }

    private static void cellsBecomeFree() {
        AtlasPacker sheet = new AtlasPacker(8, 8);
        sheet.place(3, 2, false);
        sheet.place(2, 4, false);
        sheet.place(3, 3, false);
        due.is("remove(1)", sheet.remove(1), 2);
        due.is("owner(2, 1)", sheet.owner(2, 1), 0);
        due.is("owner(3, 0)", sheet.owner(3, 0), AtlasPacker.NONE);
        due.is("owner(4, 3)", sheet.owner(4, 3), AtlasPacker.NONE);
        due.is("owner(5, 0)", sheet.owner(5, 0), 2);
        due.is("look(1, 0)", sheet.look(1, 0), AtlasPacker.BAD);
        due.is("freeCells()", sheet.freeCells(), 49);
        due.is("bestPlace(2, 4)", sheet.bestPlace(2, 4), 3);
        due.lies(sheet, 0, 0, 0, 3, 2);
        due.lies(sheet, 2, 5, 0, 3, 3);
    }

    private static void countsDownFromTwenty() {
        AtlasPacker sheet = Due.twentyCells();
        for (int id = 19; id >= 0; id--) {
            due.is("remove(" + id + ")", sheet.remove(id), id);
        }
        due.is("freeCells()", sheet.freeCells(), 256);
    }
}
