/** Promise 10: fitting counts the couples (width, height) that have a good place. */
public final class Promise10FittingTest {
    private static final Due due = new Due();

    public static void main(String[] args) {
        due.is("fitting() of 4 by 4", new AtlasPacker(4, 4).fitting(), 16);
        due.is("fitting() of 16 by 16", new AtlasPacker(16, 16).fitting(), 256);
        due.is("fitting() of 16 by 5", new AtlasPacker(16, 5).fitting(), 80);
        AtlasPacker sheet = new AtlasPacker(6, 8);
        sheet.place(4, 5, false);
        due.is("fitting() beside and above", sheet.fitting(), 3 * 6 + 5 * 2);
        sheet.place(2, 8, false);
        due.is("fitting() above", sheet.fitting(), 3 * 4);
        sheet.remove(0);
        due.is("fitting() beside", sheet.fitting(), 8 * 4);
        sheet.place(4, 8, false);
        due.is("fitting() with none free", sheet.fitting(), 0);
        due.is("fitting() with twenty", Due.twentyCells().fitting(), 14 * 16 + 12);
        due.end();
    }
}
