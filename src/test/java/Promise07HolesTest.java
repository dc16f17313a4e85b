/** Promise 7: holes counts the free rectangles that are in no other free rectangle. */
public final class Promise07HolesTest {
    private static final Due due = new Due();

    public static void main(String[] args) {
        AtlasPacker sheet = new AtlasPacker(16, 16);
        due.is("holes() when new", sheet.holes(), 1);
        sheet.place(16, 16, false);
        due.is("holes() with none free", sheet.holes(), 0);
        oneAtTheCorner();
        oneInTheMiddle();
        holesThatTouchOnlyAtACorner();
        stairs();
        due.end();
    }

    private static void oneAtTheCorner() {
        AtlasPacker sheet = new AtlasPacker(8, 8);
        sheet.place(3, 3, false);
        due.is("holes() around a corner", sheet.holes(), 2);
        sheet.place(5, 3, false);
        due.is("holes() above a full row", sheet.holes(), 1);
    }

    private static void oneInTheMiddle() {
        AtlasPacker sheet = new AtlasPacker(5, 5);
        sheet.place(5, 2, false);
        sheet.place(2, 1, false);
        sheet.place(1, 1, false);
        due.lies(sheet, 2, 2, 2, 1, 1);
        sheet.remove(0);
        sheet.remove(1);
        due.is("holes() around the middle", sheet.holes(), 4);
    }

    private static void holesThatTouchOnlyAtACorner() {
        AtlasPacker sheet = new AtlasPacker(4, 4);
        sheet.place(2, 2, false);
        sheet.place(2, 2, false);
        sheet.place(2, 2, false);
        sheet.place(2, 2, false);
        due.is("holes() with four quarters", sheet.holes(), 0);
        sheet.remove(1);
        due.is("holes() with one quarter free", sheet.holes(), 1);
        sheet.remove(2);
        due.is("holes() with two quarters free", sheet.holes(), 2);
    }

    private static void stairs() {
        AtlasPacker sheet = new AtlasPacker(16, 16);
        for (int height = 15; height >= 1; height--) {
            sheet.place(1, height, false);
        }
        due.is("holes() above stairs", sheet.holes(), 16);
    }
}
