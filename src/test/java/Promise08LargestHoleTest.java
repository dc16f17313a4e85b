/** Promise 8: largestHole is the greatest number of cells of a hole, 0 without one. */
public final class Promise08LargestHoleTest {
    private static final Due due = new Due();

    public static void main(String[] args) {
        AtlasPacker sheet = new AtlasPacker(8, 6);
        due.is("largestHole() when new", sheet.largestHole(), 48);
        sheet.place(3, 2, false);
        due.is("largestHole() above 3 by 2", sheet.largestHole(), 32);
        sheet.place(1, 3, false);
        due.is("largestHole() with the widest too low", sheet.largestHole(), 24);
        sheet.place(4, 5, false);
        due.is("largestHole() in the narrow rest", sheet.largestHole(), 12);
        sheet.place(4, 3, false);
        due.is("largestHole() with small rests", sheet.largestHole(), 4);
        sheet.clear();
        sheet.place(8, 6, false);
        due.is("largestHole() with none free", sheet.largestHole(), 0);
        AtlasPacker large = new AtlasPacker(16, 16);
        due.is("largestHole() of 16 by 16", large.largestHole(), 256);
        large.place(16, 15, false);
        due.is("largestHole() of the top row", large.largestHole(), 16);
        large.place(15, 1, false);
        due.is("largestHole() of the last cell", large.largestHole(), 1);
        due.end();
    }
}
