/** All promises: long runs of calls, made by a fixed rule, answered by the program and by the model alike. */
public final class ModelRunsTest {
    private static final Due due = new Due();
    private static final int CALLS = 512;
    private static final int[] ODD = {Integer.MIN_VALUE, -3, -2, -1, 0, 17, 20, 21, 256, Integer.MAX_VALUE};

    private static long state;

    public static void main(String[] args) {
        for (int run = 0; run < 400; run++) {
            state = run;
            int columns = run % 20 == 0 ? 16 : upTo(20);
            int rows = run % 20 == 0 ? 16 : upTo(20);
            compare(run, new AtlasPacker(columns, rows), new Model(columns, rows));
        }
        due.end();
    }

    // A fixed linear rule, so that every run of the test makes the same calls.
    private static int upTo(int most) {
        state = state * 6364136223846793005L + 1442695040888963407L;
        return (int) ((state >>> 33) % (most + 1));
    }

    private static int side(int longest) {
        return upTo(40) == 0 ? ODD[upTo(ODD.length - 1)] : 1 + upTo(longest - 1);
    }

    private static int from(int first, int last) {
        return upTo(40) == 0 ? ODD[upTo(ODD.length - 1)] : first + upTo(last - first);
    }

    private static void compare(int run, AtlasPacker sheet, Model model) {
        // Short sides fill the numbers, long ones fill the cells.
        int longest = 2 + upTo(6);
        for (int call = 0; call < CALLS; call++) {
            String name = "run " + run + ", call " + call + ": ";
            int kind = upTo(99);
            if (kind < 40) {
                int width = side(longest);
                int height = side(longest);
                boolean turn = upTo(1) == 0;
                due.is(name + "place(" + width + ", " + height + ", " + turn + ")",
                        sheet.place(width, height, turn), model.place(width, height, turn));
            } else if (kind < 58) {
                int id = from(0, 19);
                due.is(name + "remove(" + id + ")", sheet.remove(id), model.remove(id));
            } else if (kind < 70) {
                int id = from(0, 19);
                int what = from(0, 3);
                due.is(name + "look(" + id + ", " + what + ")", sheet.look(id, what), model.look(id, what));
            } else if (kind < 80) {
                int x = from(0, model.columns);
                int y = from(0, model.rows);
                due.is(name + "owner(" + x + ", " + y + ")", sheet.owner(x, y), model.owner(x, y));
            } else if (kind < 90) {
                int width = side(16);
                int height = side(16);
                due.is(name + "bestPlace(" + width + ", " + height + ")",
                        sheet.bestPlace(width, height), model.bestPlace(width, height));
            } else {
                count(kind, name, sheet, model);
            }
        }
    }

    private static void count(int kind, String name, AtlasPacker sheet, Model model) {
        if (kind < 92) {
            due.is(name + "freeCells()", sheet.freeCells(), model.freeCells());
        } else if (kind < 95) {
            due.is(name + "holes()", sheet.holes(), model.holes());
        } else if (kind < 97) {
            due.is(name + "largestHole()", sheet.largestHole(), model.largestHole());
        } else if (kind < 99) {
            due.is(name + "fitting()", sheet.fitting(), model.fitting());
        } else {
            due.is(name + "clear()", sheet.clear(), model.clear());
        }
    }
}
