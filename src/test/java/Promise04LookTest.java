/** Promise 4: look tells x, y, width and height of a rectangle as it lies. */
public final class Promise04LookTest {
    private static final int[] WRONG_WHATS = {-1, -4, 4, 5, 8, 256, 65536, Integer.MIN_VALUE, Integer.MAX_VALUE};
    private static final Due due = new Due();

    public static void main(String[] args) {
        tellsHowItLies();
        tellsTheSmallestAndTheGreatest();
        tellsTheTurnedSides();
        tellsAnewAfterTheNumberIsUsedAgain();
        wrongNumbersAreBad();
        numbersOfNoRectangleAreBad();
        wrongWhatIsBad();
        due.end();
    }

    private static void tellsHowItLies() {
        due.sentence("The x, the y, the width or the height (what 0, 1, 2, 3) of rectangle id as it lies");
        AtlasPacker sheet = new AtlasPacker(9, 7);
        sheet.place(5, 2, false);
        sheet.place(4, 3, false);
        sheet.place(3, 4, false);
        due.lies(sheet, 0, 0, 0, 5, 2);
        due.lies(sheet, 1, 5, 0, 4, 3);
        due.lies(sheet, 2, 0, 2, 3, 4);
        due.lies(Due.twentyCells(), 19, 3, 1, 1, 1);
    }

    private static void tellsTheSmallestAndTheGreatest() {
        due.sentence("The x, the y, the width or the height (what 0, 1, 2, 3) of rectangle id as it lies");
        AtlasPacker sheet = new AtlasPacker(16, 16);
        sheet.place(16, 16, false);
        due.lies(sheet, 0, 0, 0, 16, 16);
        sheet.clear();
        sheet.place(16, 15, false);
        sheet.place(15, 1, false);
        sheet.place(1, 1, false);
        due.lies(sheet, 2, 15, 15, 1, 1);
    }

    private static void tellsTheTurnedSides() {
        due.sentence("as it lies");
        AtlasPacker sheet = new AtlasPacker(4, 9);
        sheet.place(7, 3, true);
        due.lies(sheet, 0, 0, 0, 3, 7);
    }

    private static void tellsAnewAfterTheNumberIsUsedAgain() {
        due.sentence("as it lies");
        AtlasPacker sheet = new AtlasPacker(8, 8);
        sheet.place(3, 2, false);
        sheet.place(2, 2, false);
        sheet.remove(0);
        sheet.place(4, 5, false);
        due.lies(sheet, 0, 0, 2, 4, 5);
        due.lies(sheet, 1, 3, 0, 2, 2);
    }

    private static void wrongNumbersAreBad() {
        due.sentence("BAD if id is not the number of a rectangle on the sheet");
        AtlasPacker sheet = Due.twentyCells();
        for (int what = 0; what < 4; what++) {
            for (int id : Due.WRONG_NUMBERS) {
                due.is("look(" + id + ", " + what + ")", sheet.look(id, what), AtlasPacker.BAD);
            }
        }
    }

    private static void numbersOfNoRectangleAreBad() {
        due.sentence("BAD if id is not the number of a rectangle on the sheet");
        AtlasPacker sheet = new AtlasPacker(8, 8);
        sheet.place(2, 3, false);
        sheet.place(1, 1, false);
        sheet.remove(0);
        for (int what = 0; what < 4; what++) {
            due.is("look(0, " + what + ") when removed", sheet.look(0, what), AtlasPacker.BAD);
            due.is("look(2, " + what + ") never placed", sheet.look(2, what), AtlasPacker.BAD);
        }
        sheet.clear();
        for (int what = 0; what < 4; what++) {
            due.is("look(1, " + what + ") after clear", sheet.look(1, what), AtlasPacker.BAD);
        }
    }

    private static void wrongWhatIsBad() {
        due.sentence("or what is outside 0..3.");
        AtlasPacker sheet = new AtlasPacker(8, 8);
        sheet.place(2, 3, false);
        for (int what : WRONG_WHATS) {
            due.is("look(0, " + what + ")", sheet.look(0, what), AtlasPacker.BAD);
            due.is("look(7, " + what + ")", sheet.look(7, what), AtlasPacker.BAD);
        }
        due.lies(sheet, 0, 0, 0, 2, 3);
    }
}
