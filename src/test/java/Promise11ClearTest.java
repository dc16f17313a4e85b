/** Promise 11: clear takes all rectangles away and answers how many there were. */
public final class Promise11ClearTest {
    private static final Due due = new Due();

    public static void main(String[] args) {
        AtlasPacker sheet = new AtlasPacker(16, 16);
        due.is("clear() when new", sheet.clear(), 0);
        for (int i = 0; i < 5; i++) {
            sheet.place(2, 3, false);
        }
        sheet.remove(1);
        sheet.remove(4);
        due.is("clear() of three", sheet.clear(), 3);
        due.is("clear() again", sheet.clear(), 0);
        due.is("freeCells()", sheet.freeCells(), 256);
        due.is("holes()", sheet.holes(), 1);
        for (int id = 0; id < 20; id++) {
            due.is("look(" + id + ", 2)", sheet.look(id, 2), AtlasPacker.BAD);
        }
        due.is("owner(0, 0)", sheet.owner(0, 0), AtlasPacker.NONE);
        due.is("place(16, 16, false)", sheet.place(16, 16, false), 0);
        AtlasPacker full = Due.twentyCells();
        due.is("clear() of twenty", full.clear(), 20);
        due.is("remove(19)", full.remove(19), AtlasPacker.BAD);
        due.is("place(1, 1, false)", full.place(1, 1, false), 0);
        due.end();
    }
}
