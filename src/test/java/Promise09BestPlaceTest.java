/** Promise 9: bestPlace tells 256 * y + x of the best place and places nothing. */
public final class Promise09BestPlaceTest {
    private static final Due due = new Due();

    public static void main(String[] args) {
        tellsTheBestPlace();
        firstAndLastCell();
        placesNothing();
        noPlaceIsNone();
        doesNotTurn();
        wrongSidesAreBad();
        sidesOfOneAndSixteenAreRight();
        badComesBeforeNone();
        doesNotCareHowManyThereAre();
        due.end();
    }

    private static void tellsTheBestPlace() {
        due.sentence("256 * y + x of the best place for a width and a height");
        AtlasPacker sheet = new AtlasPacker(10, 10);
        due.is("bestPlace(10, 10)", sheet.bestPlace(10, 10), 0);
        sheet.place(7, 3, false);
        due.is("bestPlace(3, 10)", sheet.bestPlace(3, 10), 7);
        due.is("bestPlace(4, 1)", sheet.bestPlace(4, 1), 256 * 3);
        sheet.place(4, 2, false);
        due.is("bestPlace(5, 2)", sheet.bestPlace(5, 2), 256 * 3 + 4);
    }

    private static void firstAndLastCell() {
        due.sentence("256 * y + x of the best place for a width and a height");
        for (int y = 0; y < 16; y += 5) {
            for (int x = 0; x < 16; x += 5) {
                AtlasPacker sheet = Due.oneCellFree(16, 16, x, y);
                due.is("bestPlace(1, 1) with (" + x + ", " + y + ") free", sheet.bestPlace(1, 1), 256 * y + x);
            }
        }
    }

    private static void placesNothing() {
        due.sentence("without placing anything");
        AtlasPacker sheet = new AtlasPacker(10, 10);
        sheet.place(7, 3, false);
        String before = Due.picture(sheet);
        for (int i = 0; i < 30; i++) {
            due.is("bestPlace(5, 2)", sheet.bestPlace(5, 2), 256 * 3);
            due.is("bestPlace(11, 2)", sheet.bestPlace(11, 2), AtlasPacker.NONE);
            due.is("bestPlace(17, 2)", sheet.bestPlace(17, 2), AtlasPacker.BAD);
        }
        due.unchanged(before, sheet);
        due.is("clear()", sheet.clear(), 1);
    }

    private static void noPlaceIsNone() {
        due.sentence("NONE if there is none");
        AtlasPacker sheet = new AtlasPacker(10, 10);
        due.is("bestPlace(11, 1)", sheet.bestPlace(11, 1), AtlasPacker.NONE);
        due.is("bestPlace(1, 11)", sheet.bestPlace(1, 11), AtlasPacker.NONE);
        sheet.place(7, 3, false);
        due.is("bestPlace(10, 8)", sheet.bestPlace(10, 8), AtlasPacker.NONE);
        due.is("bestPlace(10, 7)", sheet.bestPlace(10, 7), 256 * 3);
        sheet.clear();
        sheet.place(10, 10, false);
        due.is("bestPlace(1, 1) with none free", sheet.bestPlace(1, 1), AtlasPacker.NONE);
    }

    private static void doesNotTurn() {
        due.sentence("NONE if there is none");
        AtlasPacker sheet = new AtlasPacker(4, 8);
        due.is("bestPlace(8, 1)", sheet.bestPlace(8, 1), AtlasPacker.NONE);
        due.is("bestPlace(1, 8)", sheet.bestPlace(1, 8), 0);
    }

    private static void wrongSidesAreBad() {
        due.sentence("BAD if width or height is outside 1..16.");
        AtlasPacker sheet = new AtlasPacker(16, 16);
        for (int side : Due.WRONG_SIDES) {
            due.is("bestPlace(" + side + ", 1)", sheet.bestPlace(side, 1), AtlasPacker.BAD);
            due.is("bestPlace(1, " + side + ")", sheet.bestPlace(1, side), AtlasPacker.BAD);
            due.is("bestPlace(16, " + side + ")", sheet.bestPlace(16, side), AtlasPacker.BAD);
            due.is("bestPlace(" + side + ", " + side + ")", sheet.bestPlace(side, side), AtlasPacker.BAD);
        }
    }

    private static void sidesOfOneAndSixteenAreRight() {
        due.sentence("BAD if width or height is outside 1..16.");
        AtlasPacker large = new AtlasPacker(16, 16);
        due.is("bestPlace(16, 16)", large.bestPlace(16, 16), 0);
        due.is("bestPlace(1, 16)", large.bestPlace(1, 16), 0);
        due.is("bestPlace(16, 1)", large.bestPlace(16, 1), 0);
        due.is("bestPlace(1, 1)", large.bestPlace(1, 1), 0);
        AtlasPacker small = new AtlasPacker(4, 4);
        due.is("bestPlace(16, 16) on 4 by 4", small.bestPlace(16, 16), AtlasPacker.NONE);
        due.is("bestPlace(1, 5) on 4 by 4", small.bestPlace(1, 5), AtlasPacker.NONE);
    }

    private static void badComesBeforeNone() {
        due.sentence("BAD if width or height is outside 1..16.");
        AtlasPacker sheet = new AtlasPacker(4, 4);
        sheet.place(4, 4, false);
        for (int side : Due.WRONG_SIDES) {
            due.is("bestPlace(" + side + ", 1) with none free", sheet.bestPlace(side, 1), AtlasPacker.BAD);
            due.is("bestPlace(16, " + side + ") with none free", sheet.bestPlace(16, side), AtlasPacker.BAD);
        }
    }

    private static void doesNotCareHowManyThereAre() {
        due.sentence("256 * y + x of the best place for a width and a height");
        AtlasPacker sheet = Due.twentyCells();
        due.is("bestPlace(1, 1) with twenty", sheet.bestPlace(1, 1), 256 + 4);
        due.is("bestPlace(16, 14) with twenty", sheet.bestPlace(16, 14), 256 * 2);
        due.is("bestPlace(16, 15) with twenty", sheet.bestPlace(16, 15), AtlasPacker.NONE);
    }
}
