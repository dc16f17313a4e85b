/** Promise 2: place, its order of tests, its choice of place, turning and numbers. */
public final class Promise02PlaceTest {
    private static final Due due = new Due();

    public static void main(String[] args) {
        wrongSidesAreBad();
        badComesBeforeFull();
        fullComesBeforeNone();
        noPlaceChangesNothing();
        lowestThenLeftmost();
        fallsIntoClosedGaps();
        smallestNumberIsGiven();
        wholeSheet();
        withoutTurnNothingTurns();
        turnsIfThatIsLower();
        turnsIfThatIsFurtherLeft();
        turnsIfOnlyThatFits();
        staysIfOnlyThatFits();
        staysIfThatIsBetter();
        staysIfBothAreTheSamePlace();
        noPlaceEitherWay();
        due.end();
    }

    private static void wrongSidesAreBad() {
        AtlasPacker sheet = new AtlasPacker(16, 16);
        for (int side : Due.WRONG_SIDES) {
            for (boolean turn : new boolean[] {false, true}) {
                due.is("place(" + side + ", 1, " + turn + ")", sheet.place(side, 1, turn), AtlasPacker.BAD);
                due.is("place(1, " + side + ", " + turn + ")", sheet.place(1, side, turn), AtlasPacker.BAD);
                due.is("place(" + side + ", " + side + ", " + turn + ")", sheet.place(side, side, turn), AtlasPacker.BAD);
            }
        }
        due.is("freeCells() after wrong sides", sheet.freeCells(), 256);
        due.is("place(16, 1, false)", sheet.place(16, 1, false), 0);
        due.is("place(1, 15, false)", sheet.place(1, 15, false), 1);
    }

    private static void badComesBeforeFull() {
        AtlasPacker sheet = Due.twentyCells();
        due.is("place(0, 1, false) when full", sheet.place(0, 1, false), AtlasPacker.BAD);
        due.is("place(1, 17, true) when full", sheet.place(1, 17, true), AtlasPacker.BAD);
        due.is("place(1, 1, false) when full", sheet.place(1, 1, false), AtlasPacker.FULL);
        due.is("place(1, 1, true) when full", sheet.place(1, 1, true), AtlasPacker.FULL);
        due.is("freeCells() when full", sheet.freeCells(), 236);
    }

    private static void fullComesBeforeNone() {
        AtlasPacker sheet = Due.twentyCells();
        due.is("place(16, 16, false) when full", sheet.place(16, 16, false), AtlasPacker.FULL);
        due.is("remove(19)", sheet.remove(19), 19);
        due.is("place(16, 16, false) with 19", sheet.place(16, 16, false), AtlasPacker.NONE);
        due.is("place(16, 12, false) with 19", sheet.place(16, 12, false), 19);
        due.is("place(1, 1, false) with 20", sheet.place(1, 1, false), AtlasPacker.FULL);
    }

    private static void noPlaceChangesNothing() {
        AtlasPacker sheet = new AtlasPacker(8, 8);
        due.is("place(9, 1, false)", sheet.place(9, 1, false), AtlasPacker.NONE);
        due.is("place(1, 9, false)", sheet.place(1, 9, false), AtlasPacker.NONE);
        due.is("freeCells()", sheet.freeCells(), 64);
        due.is("look(0, 0)", sheet.look(0, 0), AtlasPacker.BAD);
        due.is("clear()", sheet.clear(), 0);
    }

    private static void lowestThenLeftmost() {
        AtlasPacker sheet = new AtlasPacker(8, 8);
        sheet.place(5, 4, false);
        sheet.place(1, 1, false);
        due.lies(sheet, 1, 5, 0, 1, 1);
        sheet.place(3, 2, false);
        due.lies(sheet, 2, 5, 1, 3, 2);
        sheet.place(4, 1, false);
        due.lies(sheet, 3, 0, 4, 4, 1);
        sheet.place(2, 1, false);
        due.lies(sheet, 4, 6, 0, 2, 1);
    }

    private static void fallsIntoClosedGaps() {
        AtlasPacker sheet = new AtlasPacker(6, 6);
        sheet.place(6, 2, false);
        sheet.place(6, 2, false);
        sheet.remove(0);
        due.is("place(6, 2, false) below another", sheet.place(6, 2, false), 0);
        due.lies(sheet, 0, 0, 0, 6, 2);
    }

    private static void smallestNumberIsGiven() {
        AtlasPacker sheet = Due.twentyCells();
        sheet.remove(17);
        sheet.remove(4);
        sheet.remove(9);
        due.is("place after removing 17, 4, 9", sheet.place(1, 1, false), 4);
        due.is("place after that", sheet.place(1, 1, false), 9);
        due.is("place after that", sheet.place(1, 1, false), 17);
        due.is("place after that", sheet.place(1, 1, false), AtlasPacker.FULL);
    }

    private static void wholeSheet() {
        AtlasPacker sheet = new AtlasPacker(16, 16);
        due.is("place(16, 16, true)", sheet.place(16, 16, true), 0);
        due.lies(sheet, 0, 0, 0, 16, 16);
        due.is("place(1, 1, true)", sheet.place(1, 1, true), AtlasPacker.NONE);
    }

    private static void withoutTurnNothingTurns() {
        AtlasPacker sheet = new AtlasPacker(4, 8);
        due.is("place(5, 1, false)", sheet.place(5, 1, false), AtlasPacker.NONE);
        sheet.place(3, 1, false);
        due.is("place(2, 1, false)", sheet.place(2, 1, false), 1);
        due.lies(sheet, 1, 0, 1, 2, 1);
    }

    private static void turnsIfThatIsLower() {
        AtlasPacker sheet = new AtlasPacker(4, 8);
        sheet.place(3, 1, false);
        due.is("place(2, 1, true)", sheet.place(2, 1, true), 1);
        due.lies(sheet, 1, 3, 0, 1, 2);
    }

    private static void turnsIfThatIsFurtherLeft() {
        AtlasPacker sheet = new AtlasPacker(8, 8);
        sheet.place(1, 1, false);
        sheet.place(1, 1, false);
        sheet.place(1, 1, false);
        sheet.remove(1);
        due.is("place(3, 1, true)", sheet.place(3, 1, true), 1);
        due.lies(sheet, 1, 1, 0, 1, 3);
    }

    private static void turnsIfOnlyThatFits() {
        AtlasPacker sheet = new AtlasPacker(4, 8);
        due.is("place(8, 2, true)", sheet.place(8, 2, true), 0);
        due.lies(sheet, 0, 0, 0, 2, 8);
    }

    private static void staysIfOnlyThatFits() {
        AtlasPacker sheet = new AtlasPacker(4, 8);
        due.is("place(2, 8, true)", sheet.place(2, 8, true), 0);
        due.lies(sheet, 0, 0, 0, 2, 8);
    }

    private static void staysIfThatIsBetter() {
        AtlasPacker sheet = new AtlasPacker(4, 8);
        sheet.place(3, 1, false);
        due.is("place(1, 2, true)", sheet.place(1, 2, true), 1);
        due.lies(sheet, 1, 3, 0, 1, 2);
    }

    private static void staysIfBothAreTheSamePlace() {
        AtlasPacker sheet = new AtlasPacker(10, 10);
        due.is("place(3, 2, true)", sheet.place(3, 2, true), 0);
        due.lies(sheet, 0, 0, 0, 3, 2);
        due.is("place(2, 3, true)", sheet.place(2, 3, true), 1);
        due.lies(sheet, 1, 3, 0, 2, 3);
    }

    private static void noPlaceEitherWay() {
        AtlasPacker sheet = new AtlasPacker(6, 6);
        due.is("place(7, 1, true)", sheet.place(7, 1, true), AtlasPacker.NONE);
        due.is("place(1, 7, true)", sheet.place(1, 7, true), AtlasPacker.NONE);
        due.is("freeCells()", sheet.freeCells(), 36);
    }
}
