/** A sheet on which rectangles are packed bottom left and taken away again. */
public final class AtlasPacker {
    public static final int BAD = -1;
    public static final int FULL = -2;
    public static final int NONE = -3;

    private static final int SMALLEST_SHEET = 4;
    private static final int LARGEST_SIDE = 16;
    private static final int CAPACITY = 20;
    private static final int ROW_STEP = 256;

    private final int columns;
    private final int rows;

    // The rectangles are the whole state: which cells are free is worked out from them, so the two can't disagree.
    private final boolean[] placed = new boolean[CAPACITY];
    private final int[] lefts = new int[CAPACITY];
    private final int[] bottoms = new int[CAPACITY];
    private final int[] widths = new int[CAPACITY];
    private final int[] heights = new int[CAPACITY];

    public AtlasPacker(int columns, int rows) {
        this.columns = clampSheetSide(columns);
        this.rows = clampSheetSide(rows);
    }

    public int place(int width, int height, boolean turn) {
        if (!isSide(width) || !isSide(height)) {
            return BAD;
        }
        int id = smallestUnusedNumber();
        if (id == FULL) {
            return FULL;
        }
        int upright = findBest(width, height);
        int turned = turn ? findBest(height, width) : NONE;
        if (upright == NONE && turned == NONE) {
            return NONE;
        }
        if (isBetter(turned, upright)) {
            putDown(id, turned, height, width);
        } else {
            putDown(id, upright, width, height);
        }
        return id;
    }

    public int remove(int id) {
        if (!isPlaced(id)) {
            return BAD;
        }
        placed[id] = false;
        return countPlaced();
    }

    public int look(int id, int what) {
        if (!isPlaced(id)) {
            return BAD;
        }
        switch (what) {
            case 0:
                return lefts[id];
            case 1:
                return bottoms[id];
            case 2:
                return widths[id];
            case 3:
                return heights[id];
            default:
                return BAD;
        }
    }

    public int owner(int x, int y) {
        if (x < 0 || x >= columns || y < 0 || y >= rows) {
            return BAD;
        }
        return firstMeeting(x, y, 1, 1);
    }

    public int freeCells() {
        int free = columns * rows;
        for (int id = 0; id < CAPACITY; id++) {
            if (placed[id]) {
                free -= widths[id] * heights[id];
            }
        }
        return free;
    }

    public int holes() {
        int count = 0;
        for (int y = 0; y < rows; y++) {
            for (int x = 0; x < columns; x++) {
                count += countHolesFrom(x, y);
            }
        }
        return count;
    }

    public int largestHole() {
        int largest = 0;
        for (int y = 0; y < rows; y++) {
            for (int x = 0; x < columns; x++) {
                int area = largestFreeAreaFrom(x, y);
                if (area > largest) {
                    largest = area;
                }
            }
        }
        return largest;
    }

    public int bestPlace(int width, int height) {
        if (!isSide(width) || !isSide(height)) {
            return BAD;
        }
        return findBest(width, height);
    }

    public int fitting() {
        int count = 0;
        for (int height = 1; height <= LARGEST_SIDE; height++) {
            for (int width = 1; width <= LARGEST_SIDE; width++) {
                if (findBest(width, height) != NONE) {
                    count++;
                }
            }
        }
        return count;
    }

    public int clear() {
        int count = countPlaced();
        for (int id = 0; id < CAPACITY; id++) {
            placed[id] = false;
        }
        return count;
    }

    private static int clampSheetSide(int side) {
        if (side < SMALLEST_SHEET) {
            return SMALLEST_SHEET;
        }
        return side > LARGEST_SIDE ? LARGEST_SIDE : side;
    }

    private static boolean isSide(int length) {
        return length >= 1 && length <= LARGEST_SIDE;
    }

    private boolean isPlaced(int id) {
        return id >= 0 && id < CAPACITY && placed[id];
    }

    private int countPlaced() {
        int count = 0;
        for (int id = 0; id < CAPACITY; id++) {
            if (placed[id]) {
                count++;
            }
        }
        return count;
    }

    private int smallestUnusedNumber() {
        for (int id = 0; id < CAPACITY; id++) {
            if (!placed[id]) {
                return id;
            }
        }
        return FULL;
    }

    private void putDown(int id, int spot, int width, int height) {
        placed[id] = true;
        lefts[id] = spot % ROW_STEP;
        bottoms[id] = spot / ROW_STEP;
        widths[id] = width;
        heights[id] = height;
    }

    // A place is ROW_STEP * y + x, so the smaller number is the lower place and, within a row, the one further left.
    private static boolean isBetter(int turned, int upright) {
        return turned != NONE && (upright == NONE || turned < upright);
    }

    private int findBest(int width, int height) {
        for (int y = 0; y + height <= rows; y++) {
            for (int x = 0; x + width <= columns; x++) {
                if (isGood(x, y, width, height)) {
                    return ROW_STEP * y + x;
                }
            }
        }
        return NONE;
    }

    private boolean isGood(int x, int y, int width, int height) {
        if (x < 0 || y < 0 || x + width > columns || y + height > rows) {
            return false;
        }
        return firstMeeting(x, y, width, height) == NONE;
    }

    private int firstMeeting(int x, int y, int width, int height) {
        for (int id = 0; id < CAPACITY; id++) {
            if (placed[id]
                    && x < lefts[id] + widths[id]
                    && lefts[id] < x + width
                    && y < bottoms[id] + heights[id]
                    && bottoms[id] < y + height) {
                return id;
            }
        }
        return NONE;
    }

    // A hole is as wide as its corner and height allow, so only the widest rectangle of each height can be one.
    private int countHolesFrom(int x, int y) {
        int count = 0;
        for (int height = 1; y + height <= rows; height++) {
            int width = widestFrom(x, y, height);
            if (width > 0 && !growsLeftOrUpOrDown(x, y, width, height)) {
                count++;
            }
        }
        return count;
    }

    // The largest free rectangle of all is always a hole, so there is no need to ask which ones are.
    private int largestFreeAreaFrom(int x, int y) {
        int largest = 0;
        for (int height = 1; y + height <= rows; height++) {
            int area = height * widestFrom(x, y, height);
            if (area > largest) {
                largest = area;
            }
        }
        return largest;
    }

    private int widestFrom(int x, int y, int height) {
        int widest = 0;
        for (int width = 1; x + width <= columns; width++) {
            if (!isGood(x, y, width, height)) {
                return widest;
            }
            widest = width;
        }
        return widest;
    }

    // A free rectangle inside a larger free one can always grow by one row or column, so one step each way is enough.
    private boolean growsLeftOrUpOrDown(int x, int y, int width, int height) {
        return isGood(x - 1, y, width + 1, height)
                || isGood(x, y, width, height + 1)
                || isGood(x, y - 1, width, height + 1);
    }
}
