/** Promise 6: freeCells counts the free cells. */
public final class Promise06FreeCellsTest {
    private static final Due due = new Due();

    public static void main(String[] args) {
        AtlasPacker sheet = new AtlasPacker(7, 9);
        due.is("freeCells() when new", sheet.freeCells(), 63);
        sheet.place(3, 4, false);
        due.is("freeCells() after 3 by 4", sheet.freeCells(), 51);
        sheet.place(5, 2, true);
        due.is("freeCells() after 5 by 2", sheet.freeCells(), 41);
        sheet.place(8, 8, true);
        due.is("freeCells() after NONE", sheet.freeCells(), 41);
        sheet.place(0, 3, false);
        due.is("freeCells() after BAD", sheet.freeCells(), 41);
        sheet.remove(0);
        due.is("freeCells() after remove(0)", sheet.freeCells(), 53);
        sheet.remove(0);
        due.is("freeCells() after remove(0) again", sheet.freeCells(), 53);
        sheet.clear();
        due.is("freeCells() after clear", sheet.freeCells(), 63);
        sheet.place(7, 9, false);
        due.is("freeCells() with none free", sheet.freeCells(), 0);
        due.is("freeCells() with twenty cells taken", Due.twentyCells().freeCells(), 236);
        due.end();
    }
}
