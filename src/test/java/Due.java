/** Compares answers with the ones that are due, and ends the test with exit code 1 if one was wrong. */
final class Due {
    static final int[] WRONG_SIDES = {0, -1, 17, 256, Integer.MIN_VALUE, Integer.MAX_VALUE};
    static final int[] WRONG_NUMBERS = {-1, 20, 21, AtlasPacker.FULL, AtlasPacker.NONE, Integer.MIN_VALUE, Integer.MAX_VALUE};

    private int wrong = 0;

    void is(String call, long got, long want) {
        if (got != want) {
            wrong++;
            System.out.println(call + " answered " + got + ", due is " + want);
        }
    }

    void isTrue(String claim, boolean holds) {
        is(claim, holds ? 1 : 0, 1);
    }

    /** The rectangle's number, x, y, width and height as look tells them. */
    void lies(AtlasPacker sheet, int id, int x, int y, int width, int height) {
        is("look(" + id + ", 0)", sheet.look(id, 0), x);
        is("look(" + id + ", 1)", sheet.look(id, 1), y);
        is("look(" + id + ", 2)", sheet.look(id, 2), width);
        is("look(" + id + ", 3)", sheet.look(id, 3), height);
    }

    void end() {
        if (wrong != 0) {
            System.out.println(wrong + " answers are not as due");
            System.exit(1);
        }
    }

    /** A sheet of 16 by 16 with twenty rectangles of one cell, in the row at the bottom and the one above. */
    static AtlasPacker twentyCells() {
        AtlasPacker sheet = new AtlasPacker(16, 16);
        for (int i = 0; i < 20; i++) {
            sheet.place(1, 1, false);
        }
        return sheet;
    }
}
