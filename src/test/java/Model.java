/**
 * The document's words over a grid of cells, as literally and as slowly as they stand there; it shares no way of
 * working with the program, so that the two are not wrong alike.
 */
final class Model {
    final int columns;
    final int rows;
    private final int[][] cells;
    private final int[][] rectangles = new int[20][];

    Model(int columns, int rows) {
        this.columns = Math.max(4, Math.min(16, columns));
        this.rows = Math.max(4, Math.min(16, rows));
        cells = new int[this.rows][this.columns];
        for (int[] row : cells) {
            java.util.Arrays.fill(row, AtlasPacker.NONE);
        }
    }

    int place(int width, int height, boolean turn) {
        if (width < 1 || width > 16 || height < 1 || height > 16) {
            return AtlasPacker.BAD;
        }
        if (count() == 20) {
            return AtlasPacker.FULL;
        }
        int[] spot = best(width, height);
        int[] other = turn ? best(height, width) : null;
        if (spot == null && other == null) {
            return AtlasPacker.NONE;
        }
        boolean turned = spot == null
                || other != null && (other[1] < spot[1] || other[1] == spot[1] && other[0] < spot[0]);
        int id = 0;
        while (rectangles[id] != null) {
            id++;
        }
        rectangles[id] = turned
                ? new int[] {other[0], other[1], height, width}
                : new int[] {spot[0], spot[1], width, height};
        paint(id, id);
        return id;
    }

    int remove(int id) {
        if (id < 0 || id > 19 || rectangles[id] == null) {
            return AtlasPacker.BAD;
        }
        paint(id, AtlasPacker.NONE);
        rectangles[id] = null;
        return count();
    }

    int look(int id, int what) {
        if (id < 0 || id > 19 || rectangles[id] == null || what < 0 || what > 3) {
            return AtlasPacker.BAD;
        }
        return rectangles[id][what];
    }

    int owner(int x, int y) {
        return x < 0 || y < 0 || x >= columns || y >= rows ? AtlasPacker.BAD : cells[y][x];
    }

    int freeCells() {
        int free = 0;
        for (int[] row : cells) {
            for (int cell : row) {
                free += cell == AtlasPacker.NONE ? 1 : 0;
            }
        }
        return free;
    }

    int holes() {
        return holeAreas().length;
    }

    int largestHole() {
        return java.util.Arrays.stream(holeAreas()).max().orElse(0);
    }

    int bestPlace(int width, int height) {
        if (width < 1 || width > 16 || height < 1 || height > 16) {
            return AtlasPacker.BAD;
        }
        int[] spot = best(width, height);
        return spot == null ? AtlasPacker.NONE : 256 * spot[1] + spot[0];
    }

    int fitting() {
        int couples = 0;
        for (int width = 1; width <= 16; width++) {
            for (int height = 1; height <= 16; height++) {
                couples += best(width, height) != null ? 1 : 0;
            }
        }
        return couples;
    }

    int clear() {
        int count = count();
        for (int id = 0; id < 20; id++) {
            remove(id);
        }
        return count;
    }

    private int count() {
        int count = 0;
        for (int[] rectangle : rectangles) {
            count += rectangle != null ? 1 : 0;
        }
        return count;
    }

    private void paint(int id, int colour) {
        int[] r = rectangles[id];
        for (int y = r[1]; y < r[1] + r[3]; y++) {
            for (int x = r[0]; x < r[0] + r[2]; x++) {
                cells[y][x] = colour;
            }
        }
    }

    private int[] best(int width, int height) {
        int[] best = null;
        for (int x = 0; x < columns; x++) {
            for (int y = 0; y < rows; y++) {
                if ((best == null || y < best[1]) && allFree(x, y, x + width, y + height)) {
                    best = new int[] {x, y};
                }
            }
        }
        return best;
    }

    private boolean allFree(int left, int bottom, int right, int top) {
        if (right > columns || top > rows) {
            return false;
        }
        for (int y = bottom; y < top; y++) {
            for (int x = left; x < right; x++) {
                if (cells[y][x] != AtlasPacker.NONE) {
                    return false;
                }
            }
        }
        return true;
    }

    private int[] holeAreas() {
        java.util.stream.IntStream.Builder areas = java.util.stream.IntStream.builder();
        for (int left = 0; left < columns; left++) {
            for (int bottom = 0; bottom < rows; bottom++) {
                for (int right = left + 1; right <= columns; right++) {
                    for (int top = bottom + 1; top <= rows; top++) {
                        if (allFree(left, bottom, right, top) && !isInAnother(left, bottom, right, top)) {
                            areas.add((right - left) * (top - bottom));
                        }
                    }
                }
            }
        }
        return areas.build().toArray();
    }

    // Nearest first: most rectangles that are no holes are found out at once.
    private boolean isInAnother(int left, int bottom, int right, int top) {
        for (int l = left; l >= 0; l--) {
            for (int b = bottom; b >= 0; b--) {
                for (int r = right; r <= columns; r++) {
                    for (int t = top; t <= rows; t++) {
                        boolean same = l == left && b == bottom && r == right && t == top;
                        if (!same && allFree(l, b, r, t)) {
                            return true;
                        }
                    }
                }
            }
        }
        return false;
    }
}
