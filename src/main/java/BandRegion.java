/** Three sets of cells of a screen of 24 by 24 cells; each row of a set is held as one bit mask, bit x for cell x. */
public final class BandRegion {
    public static final int BAD_REGION = -1;
    public static final int BAD_KIND = -2;
    public static final int NONE = -3;
    public static final int UNION = 0;
    public static final int INTERSECT = 1;
    public static final int SUBTRACT = 2;
    public static final int XOR = 3;
    public static final int OUT = 0;
    public static final int PART = 1;
    public static final int IN = 2;

    private static final int SIDE = 24;
    private static final int REGION_COUNT = 3;
    private static final int ROW_COUNT = 72;
    private static final int FULL_ROW = 0xFFFFFF;

    // Row y of region r is at r * SIDE + y; no bit beyond FULL_ROW is ever set, so equal rows are equal numbers.
    private final int[] rows = new int[ROW_COUNT];

    public BandRegion() {
    }

    public int box(int region, int kind, int corner, int size) {
        if (!isRegion(region)) {
            return BAD_REGION;
        }
        if (!isKind(kind)) {
            return BAD_KIND;
        }
        int first = region * SIDE;
        for (int y = 0; y < SIDE; y++) {
            int boxCells = boxRow(corner, size, y);
            rows[first + y] = mixRows(rows[first + y], boxCells, kind);
        }
        return cellCount(region);
    }

    public int combine(int to, int a, int b, int kind) {
        if (!isRegion(to) || !isRegion(a) || !isRegion(b)) {
            return BAD_REGION;
        }
        if (!isKind(kind)) {
            return BAD_KIND;
        }
        // Row y of the result needs row y of a and b alone, so 'to' may be one of them.
        for (int y = 0; y < SIDE; y++) {
            rows[to * SIDE + y] = mixRows(rows[a * SIDE + y], rows[b * SIDE + y], kind);
        }
        return cellCount(to);
    }

    public int move(int region, int dx, int dy) {
        if (!isRegion(region)) {
            return BAD_REGION;
        }
        // Java shifts by the low five bits of the distance alone, so far moves can't be left to the shifts.
        if (isFar(dx) || isFar(dy)) {
            clear(region);
            return 0;
        }
        shiftAcross(region, dx);
        shiftDown(region, dy);
        return cellCount(region);
    }

    public int invert(int region) {
        if (!isRegion(region)) {
            return BAD_REGION;
        }
        int first = region * SIDE;
        for (int y = 0; y < SIDE; y++) {
            rows[first + y] ^= FULL_ROW;
        }
        return cellCount(region);
    }

    public int area(int region) {
        return isRegion(region) ? cellCount(region) : BAD_REGION;
    }

    public boolean has(int region, int x, int y) {
        if (!isRegion(region) || !isOnScreen(x) || !isOnScreen(y)) {
            return false;
        }
        return (rows[region * SIDE + y] >> x & 1) == 1;
    }

    public int rectangles(int region) {
        if (!isRegion(region)) {
            return BAD_REGION;
        }
        int count = 0;
        for (int y = 0; y < SIDE; y++) {
            count += runsStartedAt(region, y);
        }
        return count;
    }

    public int rectangle(int region, int i) {
        if (!isRegion(region)) {
            return BAD_REGION;
        }
        if (i < 0) {
            return NONE;
        }
        int remaining = i;
        for (int y = 0; y < SIDE; y++) {
            int runs = runsStartedAt(region, y);
            if (remaining < runs) {
                return packRun(region, y, remaining);
            }
            remaining -= runs;
        }
        return NONE;
    }

    public int around(int region) {
        if (!isRegion(region)) {
            return BAD_REGION;
        }
        int columns = 0;
        int top = SIDE;
        int bottom = -1;
        for (int y = 0; y < SIDE; y++) {
            int row = rows[region * SIDE + y];
            if (row != 0) {
                columns |= row;
                top = top < y ? top : y;
                bottom = y;
            }
        }
        if (columns == 0) {
            return NONE;
        }
        int first = lowestBit(columns);
        int last = highestBit(columns);
        return pack(first, top, last, bottom);
    }

    public boolean same(int a, int b) {
        if (!isRegion(a) || !isRegion(b)) {
            return false;
        }
        for (int y = 0; y < SIDE; y++) {
            if (rows[a * SIDE + y] != rows[b * SIDE + y]) {
                return false;
            }
        }
        return true;
    }

    public int covers(int region, int corner, int size) {
        if (!isRegion(region)) {
            return BAD_REGION;
        }
        boolean someInside = false;
        boolean someOutside = false;
        for (int y = 0; y < SIDE; y++) {
            int row = rows[region * SIDE + y];
            int boxCells = boxRow(corner, size, y);
            someInside |= (boxCells & row) != 0;
            someOutside |= (boxCells & ~row) != 0;
        }
        if (!someInside) {
            return OUT;
        }
        return someOutside ? PART : IN;
    }

    private static boolean isRegion(int region) {
        return region >= 0 && region < REGION_COUNT;
    }

    private static boolean isKind(int kind) {
        return kind >= UNION && kind <= XOR;
    }

    private static boolean isOnScreen(int place) {
        return place >= 0 && place < SIDE;
    }

    private static boolean isFar(int distance) {
        return distance >= SIDE || distance <= -SIDE;
    }

    private static int boxRow(int corner, int size, int y) {
        int top = (corner >> 5) & 31;
        int height = (size >> 5) & 31;
        if (y < top || y >= top + height) {
            return 0;
        }
        int left = corner & 31;
        int width = size & 31;
        // Bits that the int loses at its upper end would lie beyond the screen anyway.
        return ((1 << width) - 1) << left & FULL_ROW;
    }

    private static int mixRows(int a, int b, int kind) {
        switch (kind) {
            case UNION:
                return a | b;
            case INTERSECT:
                return a & b;
            case SUBTRACT:
                return a & ~b;
            default:
                return a ^ b;
        }
    }

    private void clear(int region) {
        for (int y = 0; y < SIDE; y++) {
            rows[region * SIDE + y] = 0;
        }
    }

    private void shiftAcross(int region, int dx) {
        int first = region * SIDE;
        for (int y = 0; y < SIDE; y++) {
            int row = rows[first + y];
            rows[first + y] = dx >= 0 ? row << dx & FULL_ROW : row >> -dx;
        }
    }

    private void shiftDown(int region, int dy) {
        int first = region * SIDE;
        for (int step = 0; step < SIDE; step++) {
            // Going against the move, each row is read before it is written over.
            int y = dy >= 0 ? SIDE - 1 - step : step;
            int from = y - dy;
            rows[first + y] = isOnScreen(from) ? rows[first + from] : 0;
        }
    }

    private int cellCount(int region) {
        int count = 0;
        for (int y = 0; y < SIDE; y++) {
            count += bitCount(rows[region * SIDE + y]);
        }
        return count;
    }

    private int runsStartedAt(int region, int y) {
        int row = rows[region * SIDE + y];
        if (y > 0 && rows[region * SIDE + y - 1] == row) {
            return 0;
        }
        int starts = runStarts(row);
        return bitCount(starts);
    }

    private int packRun(int region, int top, int number) {
        int row = rows[region * SIDE + top];
        int starts = runStarts(row);
        int ends = row & ~(row >> 1);
        int first = bitNumbered(starts, number);
        int last = bitNumbered(ends, number);
        int bottom = bandBottom(region, top);
        return pack(first, top, last, bottom);
    }

    private int bandBottom(int region, int top) {
        int row = rows[region * SIDE + top];
        int bottom = top;
        for (int y = top + 1; y < SIDE && rows[region * SIDE + y] == row; y++) {
            bottom = y;
        }
        return bottom;
    }

    private static int runStarts(int row) {
        return row & ~(row << 1);
    }

    private static int pack(int x1, int y1, int x2, int y2) {
        return x1 + 32 * y1 + 1024 * x2 + 32768 * y2;
    }

    private static int bitCount(int row) {
        int count = 0;
        for (int x = 0; x < SIDE; x++) {
            count += row >> x & 1;
        }
        return count;
    }

    private static int lowestBit(int row) {
        return bitNumbered(row, 0);
    }

    private static int highestBit(int row) {
        int highest = 0;
        for (int x = 0; x < SIDE; x++) {
            highest = (row >> x & 1) == 1 ? x : highest;
        }
        return highest;
    }

    private static int bitNumbered(int row, int number) {
        int seen = 0;
        for (int x = 0; x < SIDE; x++) {
            if ((row >> x & 1) == 1) {
                if (seen == number) {
                    return x;
                }
                seen++;
            }
        }
        return SIDE - 1;
    }
}
