/** Promise 4: look tells x, y, width and height of a rectangle as it lies. */
public final class Promise04LookTest {
    private static final Due due = new Due();

    public static void main(String[] args) {
        tellsHowItLies();
        tellsTheTurnedSides();
        wrongNumbersAreBad();
        wrongWhatIsBad();
        due.end();
    }

    private static void tellsHowItLies() {
        AtlasPacker sheet = new AtlasPacker(9, 7);
        sheet.place(5, 2, false);
        sheet.place(4, 3, false);
        sheet.place(3, 4, false);
        due.lies(sheet, 0, 0, 0, 5, 2);
        due.lies(sheet, 1, 5, 0, 4, 3);
        due.lies(sheet, 2, 0, 2, 3, 4);
        due.lies(Due.twentyCells(), 19, 3, 1, 1, 1);
    }

    private static void tellsTheTurnedSides() {
        AtlasPacker sheet = new AtlasPacker(4, 9);
        sheet.place(7, 3, true);
        due.lies(sheet, 0, 0, 0, 3, 7);
    }

    private static void wrongNumbersAreBad() {
        AtlasPacker sheet = new AtlasPacker(8, 8);
        sheet.place(2, 3, false);
        sheet.place(1, 1, false);
        sheet.remove(0);
        for (int what = 0; what < 4; what++) {
            for (int id : Due.WRONG_NUMBERS) {
                due.is("look(" + id + ", " + what + ")", sheet.look(id, what), AtlasPacker.BAD);
            }
            due.is("look(0, " + what + ") when removed", sheet.look(0, what), AtlasPacker.BAD);
            due.is("look(2, " + what + ") never placed", sheet.look(2, what), AtlasPacker.BAD);
        }
    }

    private static void wrongWhatIsBad() {
        AtlasPacker sheet = new AtlasPacker(8, 8);
        sheet.place(2, 3, false);
        for (int what : new int[] {-1, 4, 5, Integer.MIN_VALUE, Integer.MAX_VALUE}) {
            due.is("look(0, " + what + ")", sheet.look(0, what), AtlasPacker.BAD);
            due.is("look(7, " + what + ")", sheet.look(7, what), AtlasPacker.BAD);
        }
    }
}
