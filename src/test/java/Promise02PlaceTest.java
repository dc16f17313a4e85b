/** Promise 2: place, its order of tests, its choice of place, turning and numbers. */
public final class Promise02PlaceTest {
    private static final Due due = new Due();

    public static void main(String[] args) {
        wrongSidesAreBad();
        sidesOfOneAndSixteenAreRight();
        badComesBeforeFull();
        badComesBeforeNone();
        fullComesBeforeNone();
        fullWithTwentyOnly();
        withoutTurnNothingTurns();
        lowestThenLeftmost();
        fallsIntoClosedGaps();
        turnsIfThatIsLower();
        turnsIfThatIsFurtherLeft();
        lowerCountsBeforeFurtherLeft();
        staysIfThatIsBetter();
        staysIfBothAreTheSamePlace();
        turnsIfOnlyThatFits();
        staysIfOnlyThatFits();
        noPlaceChangesNothing();
        noPlaceEitherWay();
        noPlaceWithoutAFreeCell();
        noPlaceWithNineteen();
        smallestNumberIsGiven();
        refusedCallsUseNoNumber();
        wholeSheet();
        due.end();
    }

    private static void wrongSidesAreBad() {
        due.sentence("width or height outside 1..16: BAD.");
        AtlasPacker sheet = new AtlasPacker(16, 16);
        sheet.place(2, 3, false);
        String before = Due.picture(sheet);
        for (int side : Due.WRONG_SIDES) {
            for (boolean turn : new boolean[] {false, true}) {
                due.is("place(" + side + ", 1, " + turn + ")", sheet.place(side, 1, turn), AtlasPacker.BAD);
                due.is("place(16, " + side + ", " + turn + ")", sheet.place(16, side, turn), AtlasPacker.BAD);
                due.is("place(1, " + side + ", " + turn + ")", sheet.place(1, side, turn), AtlasPacker.BAD);
                due.is("place(" + side + ", " + side + ", " + turn + ")", sheet.place(side, side, turn), AtlasPacker.BAD);
            }
        }
        due.unchanged(before, sheet);
    }

    private static void sidesOfOneAndSixteenAreRight() {
        due.sentence("width or height outside 1..16: BAD.");
        for (boolean turn : new boolean[] {false, true}) {
            due.is("place(16, 1, " + turn + ")", new AtlasPacker(16, 16).place(16, 1, turn), 0);
            due.is("place(1, 16, " + turn + ")", new AtlasPacker(16, 16).place(1, 16, turn), 0);
            due.is("place(1, 1, " + turn + ")", new AtlasPacker(16, 16).place(1, 1, turn), 0);
            due.is("place(16, 16, " + turn + ")", new AtlasPacker(16, 16).place(16, 16, turn), 0);
            due.is("place(16, 16, " + turn + ") on 4 by 4", new AtlasPacker(4, 4).place(16, 16, turn), AtlasPacker.NONE);
        }
    }

    private static void badComesBeforeFull() {
        due.sentence("Tested in this order: BAD before FULL");
        AtlasPacker sheet = Due.twentyCells();
        due.is("place(0, 1, false) when full", sheet.place(0, 1, false), AtlasPacker.BAD);
        due.is("place(1, 17, true) when full", sheet.place(1, 17, true), AtlasPacker.BAD);
        due.is("place(17, 0, false) when full", sheet.place(17, 0, false), AtlasPacker.BAD);
    }

    private static void badComesBeforeNone() {
        due.sentence("Tested in this order: BAD before NONE");
        AtlasPacker sheet = new AtlasPacker(4, 4);
        due.is("place(17, 1, false)", sheet.place(17, 1, false), AtlasPacker.BAD);
        sheet.place(4, 4, false);
        due.is("place(0, 1, false) with none free", sheet.place(0, 1, false), AtlasPacker.BAD);
        due.is("place(1, 17, true) with none free", sheet.place(1, 17, true), AtlasPacker.BAD);
    }

    private static void fullComesBeforeNone() {
        due.sentence("Tested in this order: FULL before NONE");
        AtlasPacker sheet = Due.twentyCells();
        due.is("place(16, 16, false) when full", sheet.place(16, 16, false), AtlasPacker.FULL);
        due.is("place(16, 15, true) when full", sheet.place(16, 15, true), AtlasPacker.FULL);
        AtlasPacker nothingFree = new AtlasPacker(5, 4);
        for (int i = 0; i < 20; i++) {
            nothingFree.place(1, 1, false);
        }
        due.is("place(1, 1, false) when full and none free", nothingFree.place(1, 1, false), AtlasPacker.FULL);
    }

    private static void fullWithTwentyOnly() {
        due.sentence("20 rectangles are on the sheet: FULL.");
        AtlasPacker sheet = Due.twentyCells();
        String before = Due.picture(sheet);
        due.is("place(1, 1, false) with 20", sheet.place(1, 1, false), AtlasPacker.FULL);
        due.is("place(1, 1, true) with 20", sheet.place(1, 1, true), AtlasPacker.FULL);
        due.unchanged(before, sheet);
        due.is("remove(0)", sheet.remove(0), 19);
        due.is("place(1, 1, false) with 19", sheet.place(1, 1, false), 0);
        due.is("place(1, 1, false) with 20 again", sheet.place(1, 1, false), AtlasPacker.FULL);
        due.is("remove(19)", sheet.remove(19), 19);
        due.is("place(16, 12, false) with 19", sheet.place(16, 12, false), 19);
        due.is("place(1, 1, false) with 20 once more", sheet.place(1, 1, false), AtlasPacker.FULL);
        sheet.clear();
        due.is("place(1, 1, false) after clear", sheet.place(1, 1, false), 0);
    }

    private static void withoutTurnNothingTurns() {
        due.sentence("with turn false, the place is the best one for (width, height)");
        AtlasPacker sheet = new AtlasPacker(4, 8);
        due.is("place(5, 1, false)", sheet.place(5, 1, false), AtlasPacker.NONE);
        sheet.place(3, 1, false);
        due.is("place(2, 1, false)", sheet.place(2, 1, false), 1);
        due.lies(sheet, 1, 0, 1, 2, 1);
    }

    private static void lowestThenLeftmost() {
        due.sentence("with turn false, the place is the best one for (width, height)");
        AtlasPacker sheet = new AtlasPacker(8, 8);
        sheet.place(5, 4, false);
        sheet.place(1, 1, false);
        due.lies(sheet, 1, 5, 0, 1, 1);
        sheet.place(3, 2, false);
        due.lies(sheet, 2, 5, 1, 3, 2);
        sheet.place(4, 1, false);
        due.lies(sheet, 3, 0, 4, 4, 1);
        sheet.place(2, 1, false);
        due.lies(sheet, 4, 6, 0, 2, 1);
    }

    private static void fallsIntoClosedGaps() {
        due.sentence("Places a rectangle at the best place.");
        AtlasPacker sheet = new AtlasPacker(6, 6);
        sheet.place(6, 2, false);
        sheet.place(6, 2, false);
        sheet.remove(0);
        due.is("place(6, 2, false) below another", sheet.place(6, 2, false), 0);
        due.lies(sheet, 0, 0, 0, 6, 2);
    }

    private static void turnsIfThatIsLower() {
        due.sentence("the better of the best place [...], the one with the smaller y");
        AtlasPacker sheet = new AtlasPacker(4, 8);
        sheet.place(3, 1, false);
        due.is("place(2, 1, true)", sheet.place(2, 1, true), 1);
        due.lies(sheet, 1, 3, 0, 1, 2);
    }

    private static void turnsIfThatIsFurtherLeft() {
        due.sentence("then the smaller x");
        AtlasPacker sheet = new AtlasPacker(8, 8);
        sheet.place(1, 1, false);
        sheet.place(1, 1, false);
        sheet.place(1, 1, false);
        sheet.remove(1);
        due.is("place(3, 1, true)", sheet.place(3, 1, true), 1);
        due.lies(sheet, 1, 1, 0, 1, 3);
    }

    // The lower place lies at the right edge of the largest sheet, the higher one at the left edge.
    private static void lowerCountsBeforeFurtherLeft() {
        due.sentence("the one with the smaller y, then the smaller x");
        AtlasPacker turned = new AtlasPacker(16, 16);
        turned.place(15, 1, false);
        due.is("place(16, 1, true)", turned.place(16, 1, true), 1);
        due.lies(turned, 1, 15, 0, 1, 16);
        AtlasPacker upright = new AtlasPacker(16, 16);
        upright.place(15, 1, false);
        due.is("place(1, 16, true)", upright.place(1, 16, true), 1);
        due.lies(upright, 1, 15, 0, 1, 16);
    }

    private static void staysIfThatIsBetter() {
        due.sentence("the one with the smaller y, then the smaller x");
        AtlasPacker lower = new AtlasPacker(4, 8);
        lower.place(3, 1, false);
        due.is("place(1, 2, true)", lower.place(1, 2, true), 1);
        due.lies(lower, 1, 3, 0, 1, 2);
        AtlasPacker left = new AtlasPacker(8, 8);
        left.place(1, 1, false);
        left.place(1, 1, false);
        left.place(1, 1, false);
        left.remove(1);
        due.is("place(1, 3, true)", left.place(1, 3, true), 1);
        due.lies(left, 1, 1, 0, 1, 3);
    }

    private static void staysIfBothAreTheSamePlace() {
        due.sentence("if both are the same place, [...] without turning");
        AtlasPacker sheet = new AtlasPacker(10, 10);
        due.is("place(3, 2, true)", sheet.place(3, 2, true), 0);
        due.lies(sheet, 0, 0, 0, 3, 2);
        due.is("place(2, 3, true)", sheet.place(2, 3, true), 1);
        due.lies(sheet, 1, 3, 0, 2, 3);
        due.is("place(2, 2, true)", sheet.place(2, 2, true), 2);
        due.lies(sheet, 2, 5, 0, 2, 2);
        due.is("place(8, 7, true)", sheet.place(8, 7, true), 3);
        due.lies(sheet, 3, 0, 3, 8, 7);
    }

    private static void turnsIfOnlyThatFits() {
        due.sentence("or only one exists: the turned one");
        AtlasPacker sheet = new AtlasPacker(4, 8);
        due.is("place(8, 2, true)", sheet.place(8, 2, true), 0);
        due.lies(sheet, 0, 0, 0, 2, 8);
        AtlasPacker blocked = new AtlasPacker(8, 8);
        blocked.place(6, 8, false);
        due.is("place(3, 2, true)", blocked.place(3, 2, true), 1);
        due.lies(blocked, 1, 6, 0, 2, 3);
    }

    private static void staysIfOnlyThatFits() {
        due.sentence("or only one exists, without turning if that is possible");
        AtlasPacker sheet = new AtlasPacker(4, 8);
        due.is("place(2, 8, true)", sheet.place(2, 8, true), 0);
        due.lies(sheet, 0, 0, 0, 2, 8);
        AtlasPacker blocked = new AtlasPacker(8, 8);
        blocked.place(6, 8, false);
        due.is("place(2, 3, true)", blocked.place(2, 3, true), 1);
        due.lies(blocked, 1, 6, 0, 2, 3);
    }

    private static void noPlaceChangesNothing() {
        due.sentence("If there is no such place: NONE.");
        AtlasPacker sheet = new AtlasPacker(8, 8);
        sheet.place(3, 3, false);
        String before = Due.picture(sheet);
        due.is("place(9, 1, false)", sheet.place(9, 1, false), AtlasPacker.NONE);
        due.is("place(1, 9, false)", sheet.place(1, 9, false), AtlasPacker.NONE);
        due.is("place(6, 6, false)", sheet.place(6, 6, false), AtlasPacker.NONE);
        due.is("place(6, 6, true)", sheet.place(6, 6, true), AtlasPacker.NONE);
        due.unchanged(before, sheet);
        due.is("place(8, 5, false)", sheet.place(8, 5, false), 1);
    }

    private static void noPlaceEitherWay() {
        due.sentence("If there is no such place: NONE.");
        AtlasPacker sheet = new AtlasPacker(6, 6);
        due.is("place(7, 1, true)", sheet.place(7, 1, true), AtlasPacker.NONE);
        due.is("place(1, 7, true)", sheet.place(1, 7, true), AtlasPacker.NONE);
        due.is("freeCells()", sheet.freeCells(), 36);
    }

    private static void noPlaceWithoutAFreeCell() {
        due.sentence("If there is no such place: NONE.");
        AtlasPacker sheet = new AtlasPacker(4, 4);
        sheet.place(4, 4, true);
        due.is("place(1, 1, false)", sheet.place(1, 1, false), AtlasPacker.NONE);
        due.is("place(1, 1, true)", sheet.place(1, 1, true), AtlasPacker.NONE);
        due.is("clear()", sheet.clear(), 1);
    }

    private static void noPlaceWithNineteen() {
        due.sentence("If there is no such place: NONE.");
        AtlasPacker sheet = Due.twentyCells();
        sheet.remove(19);
        due.is("place(16, 16, false) with 19", sheet.place(16, 16, false), AtlasPacker.NONE);
        due.is("place(16, 15, true) with 19", sheet.place(16, 15, true), AtlasPacker.NONE);
        due.is("place(1, 1, true) with 19", sheet.place(1, 1, true), 19);
    }

    private static void smallestNumberIsGiven() {
        due.sentence("the smallest number that no rectangle on the sheet has, and that number is answered.");
        AtlasPacker sheet = Due.twentyCells();
        for (int id : new int[] {17, 0, 19, 4}) {
            sheet.remove(id);
        }
        due.is("place after removing 17, 0, 19, 4", sheet.place(1, 1, false), 0);
        due.is("place after that", sheet.place(1, 1, false), 4);
        due.is("place after that", sheet.place(1, 1, false), 17);
        due.is("place after that", sheet.place(1, 1, false), 19);
        due.lies(sheet, 19, 3, 1, 1, 1);
        due.is("place after that", sheet.place(1, 1, false), AtlasPacker.FULL);
    }

    private static void refusedCallsUseNoNumber() {
        due.sentence("the smallest number that no rectangle on the sheet has, and that number is answered.");
        AtlasPacker sheet = new AtlasPacker(5, 5);
        sheet.place(0, 5, true);
        sheet.place(6, 5, true);
        due.is("place(5, 1, true) after BAD and NONE", sheet.place(5, 1, true), 0);
        sheet.place(17, 5, false);
        sheet.place(5, 5, false);
        due.is("place(5, 1, true) after BAD and NONE again", sheet.place(5, 1, true), 1);
    }

    private static void wholeSheet() {
        due.sentence("Places a rectangle at the best place.");
        AtlasPacker sheet = new AtlasPacker(16, 16);
        due.is("place(16, 16, true)", sheet.place(16, 16, true), 0);
        due.lies(sheet, 0, 0, 0, 16, 16);
        due.is("freeCells()", sheet.freeCells(), 0);
        due.is("owner(15, 15)", sheet.owner(15, 15), 0);
    }
}
