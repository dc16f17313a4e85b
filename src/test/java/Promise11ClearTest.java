/** Promise 11: clear takes all rectangles away and answers how many there were. */
public final class Promise11ClearTest {
    private static final Due due = new Due();

    public static void main(String[] args) {
        takesAllAway();
        takesTwentyAway();
        numbersBeginAnew();
        countsThoseOnTheSheet();
        countsNone();
        refusedCallsDoNotCount();
        due.end();
    }

    private static void takesAllAway() {
        due.sentence("Takes all rectangles away");
        AtlasPacker sheet = new AtlasPacker(5, 6);
        sheet.place(2, 3, false);
        sheet.place(4, 3, true);
        sheet.remove(0);
        sheet.clear();
        due.isTrue("the sheet is as when new", Due.picture(sheet).equals(Due.picture(new AtlasPacker(5, 6))));
        for (int y = 0; y < 6; y++) {
            for (int x = 0; x < 5; x++) {
                due.is("owner(" + x + ", " + y + ")", sheet.owner(x, y), AtlasPacker.NONE);
            }
        }
    }

    private static void takesTwentyAway() {
        due.sentence("Takes all rectangles away");
        AtlasPacker sheet = Due.twentyCells();
        sheet.clear();
        due.isTrue("the sheet is as when new", Due.picture(sheet).equals(Due.picture(new AtlasPacker(16, 16))));
        due.is("remove(0)", sheet.remove(0), AtlasPacker.BAD);
        due.is("remove(19)", sheet.remove(19), AtlasPacker.BAD);
    }

    private static void numbersBeginAnew() {
        due.sentence("Takes all rectangles away");
        AtlasPacker sheet = Due.twentyCells();
        sheet.clear();
        for (int id = 0; id < 20; id++) {
            due.is("place(1, 1, false) with " + id, sheet.place(1, 1, false), id);
        }
        due.is("place(1, 1, false) with twenty", sheet.place(1, 1, false), AtlasPacker.FULL);
    }

    private static void countsThoseOnTheSheet() {
        due.sentence("answers how many there were.");
        AtlasPacker sheet = new AtlasPacker(16, 16);
        for (int i = 0; i < 5; i++) {
            sheet.place(2, 3, false);
        }
        sheet.remove(1);
        sheet.remove(4);
        due.is("clear() of three", sheet.clear(), 3);
        sheet.place(16, 16, false);
        due.is("clear() of one", sheet.clear(), 1);
        due.is("clear() of twenty", Due.twentyCells().clear(), 20);
    }

    private static void countsNone() {
        due.sentence("answers how many there were.");
        AtlasPacker sheet = new AtlasPacker(16, 16);
        due.is("clear() when new", sheet.clear(), 0);
        sheet.place(2, 3, false);
        sheet.remove(0);
        due.is("clear() after the last was removed", sheet.clear(), 0);
        sheet.place(2, 3, false);
        sheet.clear();
        due.is("clear() again", sheet.clear(), 0);
    }

    private static void refusedCallsDoNotCount() {
        due.sentence("answers how many there were.");
        AtlasPacker sheet = new AtlasPacker(4, 4);
        sheet.place(4, 3, false);
        sheet.place(0, 1, false);
        sheet.place(4, 2, true);
        sheet.remove(7);
        due.is("clear() after BAD and NONE", sheet.clear(), 1);
        AtlasPacker full = Due.twentyCells();
        full.place(1, 1, false);
        due.is("clear() after FULL", full.clear(), 20);
    }
}
