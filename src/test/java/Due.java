/** Compares answers with the ones that are due, and ends the test with exit code 1 if one was wrong. */
final class Due {
    // Beside the nearest wrong ones, those that would be right if only their lowest bits were looked at.
    static final int[] WRONG_SIDES = {
        0, -1, -2, -16, 17, 18, 32, 33, 256, 257, 272, 65537, -65535, 1 << 30,
        Integer.MIN_VALUE, Integer.MIN_VALUE + 1, Integer.MAX_VALUE - 1, Integer.MAX_VALUE,
    };
    static final int[] WRONG_NUMBERS = {
        -1, AtlasPacker.FULL, AtlasPacker.NONE, -20, 20, 21, 32, 256, 65536, -65536, 1 << 30,
        Integer.MIN_VALUE, Integer.MAX_VALUE,
    };

    private String sentence = "";
    private int wrong = 0;

    /** The document's words by which the answers that follow are due; each wrong answer is told with them. */
    void sentence(String words) {
        sentence = words;
    }

    void is(String call, long got, long want) {
        if (got != want) {
            wrong++;
            System.out.println("[" + sentence + "] " + call + " answered " + got + ", due is " + want);
        }
    }

    void isTrue(String claim, boolean holds) {
        is(claim, holds ? 1 : 0, 1);
    }

    /** The rectangle's number, x, y, width and height as look tells them. */
    void lies(AtlasPacker sheet, int id, int x, int y, int width, int height) {
        is("look(" + id + ", 0)", sheet.look(id, 0), x);
        is("look(" + id + ", 1)", sheet.look(id, 1), y);
        is("look(" + id + ", 2)", sheet.look(id, 2), width);
        is("look(" + id + ", 3)", sheet.look(id, 3), height);
    }

    /** The calls since the picture was taken have changed nothing. */
    void unchanged(String before, AtlasPacker sheet) {
        String after = picture(sheet);
        isTrue("nothing has changed from " + before + " to " + after, after.equals(before));
    }

    void end() {
        if (wrong != 0) {
            System.out.println(wrong + " answers are not as due");
            System.exit(1);
        }
    }

    /** All that the sheet tells of its rectangles and its free cells, in 85 calls. */
    static String picture(AtlasPacker sheet) {
        StringBuilder picture = new StringBuilder();
        for (int id = 0; id < 20; id++) {
            for (int what = 0; what < 4; what++) {
                picture.append(sheet.look(id, what)).append(what < 3 ? "," : " ");
            }
        }
        picture.append(sheet.freeCells()).append(' ').append(sheet.holes()).append(' ');
        picture.append(sheet.largestHole()).append(' ').append(sheet.fitting()).append(' ');
        return picture.append(sheet.bestPlace(1, 1)).toString();
    }

    /** A sheet of 16 by 16 with twenty rectangles of one cell, in the row at the bottom and the one above. */
    static AtlasPacker twentyCells() {
        AtlasPacker sheet = new AtlasPacker(16, 16);
        for (int i = 0; i < 20; i++) {
            sheet.place(1, 1, false);
        }
        return sheet;
    }

    /** A sheet on which the cell (x, y) alone is taken; what fills the cells before it is refused if there are none. */
    static AtlasPacker oneCellTaken(int columns, int rows, int x, int y) {
        AtlasPacker sheet = new AtlasPacker(columns, rows);
        int below = sheet.place(columns, y, false);
        int beside = sheet.place(x, 1, false);
        sheet.place(1, 1, false);
        sheet.remove(below);
        sheet.remove(beside);
        return sheet;
    }

    /** A sheet on which the cell (x, y) alone is free; what fills the cells around it is refused if there are none. */
    static AtlasPacker oneCellFree(int columns, int rows, int x, int y) {
        AtlasPacker sheet = new AtlasPacker(columns, rows);
        sheet.place(columns, y, false);
        sheet.place(x, 1, false);
        int cell = sheet.place(1, 1, false);
        sheet.place(columns - 1 - x, 1, false);
        sheet.place(columns, rows - 1 - y, false);
        sheet.remove(cell);
        return sheet;
    }
}
