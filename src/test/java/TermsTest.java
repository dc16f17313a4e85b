/** The document's first words and its terms, at their edges. */
public final class TermsTest {
    private static final Due due = new Due();

    public static void main(String[] args) {
        theLastCallCounts();
        rowsCountFromTheBottom();
        noCellBelongsToTwo();
        numbersFromZeroToNineteen();
        goodUpToTheEdgeOfTheSheet();
        notGoodWithOneTakenCell();
        goodRightBesideATakenCell();
        lowestBeforeLeftmost();
        leftmostInTheLowestRow();
        aHoleReachesAsFarAsItCan();
        aHoleIsInNoOther();
        due.end();
    }

    private static void theLastCallCounts() {
        due.sentence("An object is used for at most 512 calls after it has been made");
        AtlasPacker sheet = new AtlasPacker(16, 16);
        for (int call = 1; call < 511; call += 2) {
            due.is("place as call " + call, sheet.place(16, 16, true), 0);
            due.is("remove as call " + (call + 1), sheet.remove(0), 0);
        }
        due.is("place as call 511", sheet.place(3, 2, false), 0);
        due.is("freeCells as call 512", sheet.freeCells(), 250);
    }

    private static void rowsCountFromTheBottom() {
        due.sentence("The sheet has W columns (x from 0) and H rows (y from 0, counted from the bottom)");
        AtlasPacker sheet = new AtlasPacker(4, 6);
        sheet.place(1, 1, false);
        sheet.place(3, 1, false);
        sheet.place(4, 1, false);
        due.is("owner(0, 0)", sheet.owner(0, 0), 0);
        due.is("owner(3, 0)", sheet.owner(3, 0), 1);
        due.is("owner(0, 1)", sheet.owner(0, 1), 2);
        due.is("owner(0, 5)", sheet.owner(0, 5), AtlasPacker.NONE);
        due.lies(sheet, 2, 0, 1, 4, 1);
    }

    private static void noCellBelongsToTwo() {
        due.sentence("every cell is free or belongs to one placed rectangle");
        AtlasPacker sheet = new AtlasPacker(7, 7);
        int[] cells = new int[20];
        int placed = 0;
        for (int i = 0; i < 20; i++) {
            placed += sheet.place(1 + i % 3, 1 + i % 4, i % 2 == 0) >= 0 ? 1 : 0;
        }
        int free = 0;
        for (int y = 0; y < 7; y++) {
            for (int x = 0; x < 7; x++) {
                int owner = sheet.owner(x, y);
                if (owner == AtlasPacker.NONE) {
                    free++;
                } else {
                    cells[owner]++;
                }
            }
        }
        due.is("freeCells()", sheet.freeCells(), free);
        for (int id = 0; id < placed; id++) {
            due.is("cells of " + id, cells[id], sheet.look(id, 2) * sheet.look(id, 3));
        }
    }

    private static void numbersFromZeroToNineteen() {
        due.sentence("Rectangles that are on the sheet have numbers from 0 to 19.");
        AtlasPacker sheet = new AtlasPacker(5, 5);
        for (int id = 0; id < 20; id++) {
            due.is("place(1, 1, false) with " + id, sheet.place(1, 1, false), id);
        }
        due.is("place(1, 1, false) with 20", sheet.place(1, 1, false), AtlasPacker.FULL);
        for (int id = 0; id < 20; id++) {
            due.lies(sheet, id, id % 5, id / 5, 1, 1);
        }
        due.is("look(20, 0)", sheet.look(20, 0), AtlasPacker.BAD);
        due.is("look(-1, 0)", sheet.look(-1, 0), AtlasPacker.BAD);
    }

    private static void goodUpToTheEdgeOfTheSheet() {
        due.sentence("A place (x, y) is GOOD for a width and a height iff the cells [...] are all on the sheet");
        for (int columns = 4; columns <= 16; columns += 3) {
            for (int rows = 4; rows <= 16; rows += 3) {
                AtlasPacker sheet = new AtlasPacker(columns, rows);
                sheet.place(columns - 2, rows - 1, false);
                due.is("bestPlace(2, rows)", sheet.bestPlace(2, rows), columns - 2);
                due.is("bestPlace(3, rows)", sheet.bestPlace(3, rows), AtlasPacker.NONE);
                due.is("bestPlace(columns, 1)", sheet.bestPlace(columns, 1), 256 * (rows - 1));
                due.is("bestPlace(columns, 2)", sheet.bestPlace(columns, 2), AtlasPacker.NONE);
            }
        }
    }

    private static void notGoodWithOneTakenCell() {
        due.sentence("A place (x, y) is GOOD for a width and a height iff the cells [...] are all [...] free");
        for (int y = 0; y < 5; y++) {
            for (int x = 0; x < 6; x++) {
                AtlasPacker sheet = Due.oneCellTaken(6, 5, x, y);
                String taken = " with (" + x + ", " + y + ") taken";
                due.is("freeCells()" + taken, sheet.freeCells(), 29);
                due.isTrue("owner of the cell" + taken + " is a rectangle", sheet.owner(x, y) >= 0);
                due.is("bestPlace(6, 5)" + taken, sheet.bestPlace(6, 5), AtlasPacker.NONE);
            }
        }
    }

    private static void goodRightBesideATakenCell() {
        due.sentence("A place (x, y) is GOOD [...] columns x .. x + width - 1 and rows y .. y + height - 1");
        AtlasPacker sheet = Due.oneCellTaken(7, 7, 3, 2);
        due.is("bestPlace(3, 7) left of it", sheet.bestPlace(3, 7), 0);
        due.is("bestPlace(7, 2) below it", sheet.bestPlace(7, 2), 0);
        due.is("bestPlace(7, 4) above it", sheet.bestPlace(7, 4), 256 * 3);
        sheet.place(3, 7, false);
        due.is("bestPlace(3, 7) right of it", sheet.bestPlace(3, 7), 4);
        due.is("bestPlace(4, 5)", sheet.bestPlace(4, 5), AtlasPacker.NONE);
    }

    private static void lowestBeforeLeftmost() {
        due.sentence("The BEST place for a width and a height is the good one with the smallest y");
        AtlasPacker sheet = new AtlasPacker(16, 16);
        sheet.place(15, 1, false);
        due.is("bestPlace(1, 1)", sheet.bestPlace(1, 1), 15);
        due.is("bestPlace(2, 1)", sheet.bestPlace(2, 1), 256);
        sheet.place(1, 16, false);
        sheet.place(15, 14, false);
        due.is("bestPlace(1, 1) in the top row", sheet.bestPlace(1, 1), 256 * 15);
    }

    private static void leftmostInTheLowestRow() {
        due.sentence("among these the one with the smallest x.");
        AtlasPacker sheet = new AtlasPacker(16, 4);
        for (int i = 0; i < 16; i++) {
            sheet.place(1, 1, false);
        }
        sheet.remove(14);
        sheet.remove(5);
        sheet.remove(9);
        due.is("bestPlace(1, 1)", sheet.bestPlace(1, 1), 5);
        sheet.remove(10);
        sheet.remove(15);
        due.is("bestPlace(2, 1)", sheet.bestPlace(2, 1), 9);
    }

    private static void aHoleReachesAsFarAsItCan() {
        due.sentence("A HOLE is a rectangle of cells of the sheet, all free");
        for (int y = 0; y < 5; y++) {
            for (int x = 0; x < 6; x++) {
                AtlasPacker sheet = Due.oneCellTaken(6, 5, x, y);
                int largest = Math.max(5 * Math.max(x, 5 - x), 6 * Math.max(y, 4 - y));
                due.is("largestHole() with (" + x + ", " + y + ") taken", sheet.largestHole(), largest);
            }
        }
    }

    private static void aHoleIsInNoOther() {
        due.sentence("A HOLE [...] is in no other rectangle of cells of the sheet that are all free.");
        for (int y = 0; y < 5; y++) {
            for (int x = 0; x < 6; x++) {
                AtlasPacker sheet = Due.oneCellTaken(6, 5, x, y);
                int sides = (x > 0 ? 1 : 0) + (x < 5 ? 1 : 0) + (y > 0 ? 1 : 0) + (y < 4 ? 1 : 0);
                due.is("holes() with (" + x + ", " + y + ") taken", sheet.holes(), sides);
            }
        }
    }
}
