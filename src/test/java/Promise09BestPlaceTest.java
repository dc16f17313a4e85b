/** Promise 9: bestPlace tells 256 * y + x of the best place and places nothing. */
public final class Promise09BestPlaceTest {
    private static final Due due = new Due();

    public static void main(String[] args) {
        tellsTheBestPlace();
        wrongSidesAreBad();
        doesNotCareHowManyThereAre();
        due.end();
    }

    private static void tellsTheBestPlace() {
        AtlasPacker sheet = new AtlasPacker(10, 10);
        due.is("bestPlace(10, 10)", sheet.bestPlace(10, 10), 0);
        due.is("bestPlace(11, 1)", sheet.bestPlace(11, 1), AtlasPacker.NONE);
        due.is("bestPlace(1, 11)", sheet.bestPlace(1, 11), AtlasPacker.NONE);
        sheet.place(7, 3, false);
        due.is("bestPlace(3, 10)", sheet.bestPlace(3, 10), 7);
        due.is("bestPlace(4, 1)", sheet.bestPlace(4, 1), 256 * 3);
        due.is("bestPlace(10, 8)", sheet.bestPlace(10, 8), AtlasPacker.NONE);
        sheet.place(4, 2, false);
        due.is("bestPlace(5, 2)", sheet.bestPlace(5, 2), 256 * 3 + 4);
        due.is("bestPlace(5, 2) again", sheet.bestPlace(5, 2), 256 * 3 + 4);
        due.is("freeCells()", sheet.freeCells(), 71);
        due.is("clear()", sheet.clear(), 2);
        AtlasPacker large = new AtlasPacker(16, 16);
        large.place(16, 15, false);
        large.place(15, 1, false);
        due.is("bestPlace(1, 1)", large.bestPlace(1, 1), 256 * 15 + 15);
        large.place(1, 1, false);
        due.is("bestPlace(1, 1) with none free", large.bestPlace(1, 1), AtlasPacker.NONE);
    }

    private static void wrongSidesAreBad() {
        AtlasPacker sheet = new AtlasPacker(4, 4);
        for (int side : Due.WRONG_SIDES) {
            due.is("bestPlace(" + side + ", 1)", sheet.bestPlace(side, 1), AtlasPacker.BAD);
            due.is("bestPlace(1, " + side + ")", sheet.bestPlace(1, side), AtlasPacker.BAD);
            due.is("bestPlace(16, " + side + ")", sheet.bestPlace(16, side), AtlasPacker.BAD);
        }
        due.is("bestPlace(16, 16)", sheet.bestPlace(16, 16), AtlasPacker.NONE);
    }

    private static void doesNotCareHowManyThereAre() {
        AtlasPacker sheet = Due.twentyCells();
        due.is("bestPlace(1, 1) with twenty", sheet.bestPlace(1, 1), 256 + 4);
        due.is("bestPlace(16, 14) with twenty", sheet.bestPlace(16, 14), 256 * 2);
    }
}
