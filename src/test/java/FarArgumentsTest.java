/** All promises: every couple of arguments at an edge or far off it, on sheets at their own edges, against the model. */
public final class FarArgumentsTest {
    private static final int[] FAR = {
        Integer.MIN_VALUE, Integer.MIN_VALUE + 1, -65536, -65535, -257, -256, -255, -17, -16, -3, -2, -1,
        0, 1, 3, 4, 5, 15, 16, 17, 19, 20, 21, 31, 32, 33, 255, 256, 257, 65535, 65536, 65537,
        1 << 30, Integer.MAX_VALUE - 1, Integer.MAX_VALUE,
    };
    private static final int[][] SHEETS = {{4, 4}, {16, 16}, {4, 16}, {16, 4}, {0, 17}, {5, 4}};
    // The side of the rectangles on the sheet and how many are tried: none, one over all, nineteen, twenty.
    private static final int[][] LOADS = {{1, 0}, {16, 1}, {4, 1}, {1, 19}, {1, 20}, {3, 20}};
    private static final Due due = new Due();

    private static String name;
    private static AtlasPacker sheet;
    private static Model model;

    public static void main(String[] args) {
        for (int[] size : SHEETS) {
            for (int[] load : LOADS) {
                for (int first : FAR) {
                    withFirst(size, load, first);
                }
            }
        }
        due.end();
    }

    private static void withFirst(int[] size, int[] load, int first) {
        fill(size, load);
        due.is(name + "bestPlace(1, 1)", sheet.bestPlace(1, 1), model.bestPlace(1, 1));
        for (int second : FAR) {
            String couple = "(" + first + ", " + second + ")";
            due.is(name + "look" + couple, sheet.look(first, second), model.look(first, second));
            due.is(name + "owner" + couple, sheet.owner(first, second), model.owner(first, second));
            due.is(name + "bestPlace" + couple, sheet.bestPlace(first, second), model.bestPlace(first, second));
        }
        due.is(name + "remove(" + first + ")", sheet.remove(first), model.remove(first));
        due.is(name + "clear()", sheet.clear(), model.clear());
        for (int second : FAR) {
            place(size, load, first, second, false);
            place(size, load, first, second, true);
        }
    }

    private static void place(int[] size, int[] load, int first, int second, boolean turn) {
        fill(size, load);
        String call = name + "place(" + first + ", " + second + ", " + turn + ")";
        due.is(call, sheet.place(first, second, turn), model.place(first, second, turn));
        due.is("freeCells() after " + call, sheet.freeCells(), model.freeCells());
        for (int id = 0; id < 20; id++) {
            due.lies(sheet, id, model.look(id, 0), model.look(id, 1), model.look(id, 2), model.look(id, 3));
        }
    }

    private static void fill(int[] size, int[] load) {
        name = size[0] + " by " + size[1] + " with " + load[1] + " of " + load[0] + ": ";
        due.sentence(name);
        sheet = new AtlasPacker(size[0], size[1]);
        model = new Model(size[0], size[1]);
        for (int i = 0; i < load[1]; i++) {
            due.is(name + "place", sheet.place(load[0], load[0], false), model.place(load[0], load[0], false));
        }
    }
}
