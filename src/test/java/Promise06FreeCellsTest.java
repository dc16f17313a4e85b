/** Promise 6: freeCells counts the free cells. */
public final class Promise06FreeCellsTest {
    private static final Due due = new Due();

    public static void main(String[] args) {
        due.sentence("The number of free cells.");
        followsEachCall();
        allFree();
        noneFree();
        oneFree();
        refusedCallsFreeAndTakeNothing();
        due.end();
    }

    private static void followsEachCall() {
        AtlasPacker sheet = new AtlasPacker(7, 9);
        sheet.place(3, 4, false);
        due.is("freeCells() after 3 by 4", sheet.freeCells(), 51);
        sheet.place(5, 2, true);
        due.is("freeCells() after 5 by 2", sheet.freeCells(), 41);
        sheet.remove(0);
        due.is("freeCells() after remove(0)", sheet.freeCells(), 53);
        sheet.place(1, 1, false);
        due.is("freeCells() after 1 by 1", sheet.freeCells(), 52);
        sheet.clear();
        due.is("freeCells() after clear", sheet.freeCells(), 63);
    }

    private static void allFree() {
        due.is("freeCells() of 4 by 4", new AtlasPacker(4, 4).freeCells(), 16);
        due.is("freeCells() of 16 by 16", new AtlasPacker(16, 16).freeCells(), 256);
        due.is("freeCells() of 4 by 16", new AtlasPacker(4, 16).freeCells(), 64);
    }

    private static void noneFree() {
        AtlasPacker sheet = new AtlasPacker(16, 16);
        sheet.place(16, 16, false);
        due.is("freeCells() under one rectangle", sheet.freeCells(), 0);
        AtlasPacker twenty = new AtlasPacker(4, 5);
        for (int i = 0; i < 20; i++) {
            twenty.place(1, 1, false);
            due.is("freeCells() after cell " + i, twenty.freeCells(), 19 - i);
        }
    }

    private static void oneFree() {
        due.is("freeCells() with the first free", Due.oneCellFree(16, 16, 0, 0).freeCells(), 1);
        due.is("freeCells() with the last free", Due.oneCellFree(16, 16, 15, 15).freeCells(), 1);
    }

    private static void refusedCallsFreeAndTakeNothing() {
        AtlasPacker sheet = Due.twentyCells();
        sheet.place(1, 1, false);
        due.is("freeCells() after FULL", sheet.freeCells(), 236);
        sheet.place(0, 3, false);
        due.is("freeCells() after BAD", sheet.freeCells(), 236);
        sheet.remove(20);
        due.is("freeCells() after a wrong remove", sheet.freeCells(), 236);
        sheet.remove(19);
        sheet.remove(19);
        due.is("freeCells() after removing one twice", sheet.freeCells(), 237);
        sheet.place(16, 16, true);
        due.is("freeCells() after NONE", sheet.freeCells(), 237);
    }
}
