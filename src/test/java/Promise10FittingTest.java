/** Promise 10: fitting counts the couples (width, height) that have a good place. */
public final class Promise10FittingTest {
    private static final Due due = new Due();

    public static void main(String[] args) {
        besideAndAbove();
        eachCoupleOnce();
        widthAndHeightAreNotAlike();
        fromOneToSixteen();
        noneWithoutAFreeCell();
        oneWithOneFreeCell();
        aroundOneTakenCell();
        doesNotCareHowManyThereAre();
        due.end();
    }

    private static void besideAndAbove() {
        due.sentence("for which there is a good place.");
        AtlasPacker sheet = new AtlasPacker(6, 8);
        sheet.place(4, 5, false);
        due.is("fitting() beside and above", sheet.fitting(), 3 * 6 + 5 * 2);
        sheet.place(2, 8, false);
        due.is("fitting() above", sheet.fitting(), 3 * 4);
        sheet.remove(0);
        due.is("fitting() beside", sheet.fitting(), 8 * 4);
    }

    // Two holes of two by two: each couple has two places or more and counts once.
    private static void eachCoupleOnce() {
        due.sentence("The number of different couples (width, height)");
        AtlasPacker sheet = new AtlasPacker(4, 4);
        for (int i = 0; i < 4; i++) {
            sheet.place(2, 2, false);
        }
        sheet.remove(0);
        sheet.remove(3);
        due.is("fitting() with two quarters free", sheet.fitting(), 4);
    }

    private static void widthAndHeightAreNotAlike() {
        due.sentence("The number of different couples (width, height)");
        AtlasPacker row = new AtlasPacker(16, 16);
        row.place(16, 15, false);
        due.is("fitting() in one row", row.fitting(), 16);
        AtlasPacker column = new AtlasPacker(16, 16);
        column.place(15, 16, false);
        due.is("fitting() in one column", column.fitting(), 16);
        column.remove(0);
        column.place(15, 15, false);
        due.is("fitting() in one row and one column", column.fitting(), 31);
    }

    private static void fromOneToSixteen() {
        due.sentence("both from 1 to 16");
        due.is("fitting() of 4 by 4", new AtlasPacker(4, 4).fitting(), 16);
        due.is("fitting() of 16 by 16", new AtlasPacker(16, 16).fitting(), 256);
        due.is("fitting() of 16 by 5", new AtlasPacker(16, 5).fitting(), 80);
        due.is("fitting() of 5 by 16", new AtlasPacker(5, 16).fitting(), 80);
    }

    private static void noneWithoutAFreeCell() {
        due.sentence("for which there is a good place.");
        AtlasPacker sheet = new AtlasPacker(16, 16);
        sheet.place(16, 16, false);
        due.is("fitting() with none free", sheet.fitting(), 0);
    }

    private static void oneWithOneFreeCell() {
        due.sentence("for which there is a good place.");
        for (int y = 0; y < 4; y++) {
            for (int x = 0; x < 5; x++) {
                due.is("fitting() with (" + x + ", " + y + ") free", Due.oneCellFree(5, 4, x, y).fitting(), 1);
            }
        }
        due.is("fitting() with the last cell free", Due.oneCellFree(16, 16, 15, 15).fitting(), 1);
    }

    private static void aroundOneTakenCell() {
        due.sentence("for which there is a good place.");
        for (int y = 0; y < 5; y++) {
            for (int x = 0; x < 6; x++) {
                int widest = Math.max(x, 5 - x);
                int highest = Math.max(y, 4 - y);
                int couples = 5 * widest + 6 * highest - widest * highest;
                due.is("fitting() with (" + x + ", " + y + ") taken", Due.oneCellTaken(6, 5, x, y).fitting(), couples);
            }
        }
    }

    private static void doesNotCareHowManyThereAre() {
        due.sentence("for which there is a good place.");
        due.is("fitting() with twenty", Due.twentyCells().fitting(), 14 * 16 + 12);
    }
}
