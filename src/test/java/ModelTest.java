import java.util.ArrayList;
import java.util.List;

/** Long mixed runs, each answer compared with that of a plain model that keeps every cell by itself. */
public final class ModelTest {
    private static final int RUNS = 2000;
    private static final int CALLS = 512;
    private static final int SIDE = 24;
    private static final int[] ODD = {-1, 3, 4, 24, 32, 1 << 10, Integer.MIN_VALUE, Integer.MAX_VALUE};

    private static long seed;
    private static int wrong = 0;

    private final boolean[][][] cells = new boolean[3][SIDE][SIDE];

    // Numbers from a fixed row, so that a failing run can be had again.
    private static int next(int bound) {
        seed = seed * 6364136223846793005L + 1442695040888963407L;
        return (int) ((seed >>> 33) % bound);
    }

    private static boolean good(int region) {
        return region >= 0 && region <= 2;
    }

    private static boolean mixed(boolean a, boolean b, int kind) {
        return kind == 0 ? a || b : kind == 1 ? a && b : kind == 2 ? a && !b : a != b;
    }

    private static boolean[][] boxCells(int corner, int size) {
        boolean[][] box = new boolean[SIDE][SIDE];
        int left = corner & 31;
        int top = (corner >> 5) & 31;
        int width = size & 31;
        int height = (size >> 5) & 31;
        for (int y = top; y < top + height; y++) {
            for (int x = left; x < left + width; x++) {
                if (x < SIDE && y < SIDE) {
                    box[y][x] = true;
                }
            }
        }
        return box;
    }

    private int mix(int to, boolean[][] a, boolean[][] b, int kind) {
        if (kind < 0 || kind > 3) {
            return -2;
        }
        boolean[][] made = new boolean[SIDE][SIDE];
        for (int y = 0; y < SIDE; y++) {
            for (int x = 0; x < SIDE; x++) {
                made[y][x] = mixed(a[y][x], b[y][x], kind);
            }
        }
        cells[to] = made;
        return area(to);
    }

    private int box(int region, int kind, int corner, int size) {
        return good(region) ? mix(region, cells[region], boxCells(corner, size), kind) : -1;
    }

    private int combine(int to, int a, int b, int kind) {
        return good(to) && good(a) && good(b) ? mix(to, cells[a], cells[b], kind) : -1;
    }

    private int move(int region, int dx, int dy) {
        if (!good(region)) {
            return -1;
        }
        boolean[][] made = new boolean[SIDE][SIDE];
        for (int y = 0; y < SIDE; y++) {
            for (int x = 0; x < SIDE; x++) {
                long toX = (long) x + dx;
                long toY = (long) y + dy;
                if (cells[region][y][x] && toX >= 0 && toX < SIDE && toY >= 0 && toY < SIDE) {
                    made[(int) toY][(int) toX] = true;
                }
            }
        }
        cells[region] = made;
        return area(region);
    }

    private int invert(int region) {
        return good(region) ? mix(region, cells[region], boxCells(0, 24 + 32 * 24), 3) : -1;
    }

    private int area(int region) {
        if (!good(region)) {
            return -1;
        }
        int count = 0;
        for (boolean[] row : cells[region]) {
            for (boolean cell : row) {
                count += cell ? 1 : 0;
            }
        }
        return count;
    }

    private boolean has(int region, int x, int y) {
        return good(region) && x >= 0 && x < SIDE && y >= 0 && y < SIDE && cells[region][y][x];
    }

    private static boolean empty(boolean[] row) {
        return java.util.Arrays.equals(row, new boolean[SIDE]);
    }

    private List<Integer> allRectangles(int region) {
        List<Integer> found = new ArrayList<>();
        int y1 = 0;
        while (y1 < SIDE) {
            boolean[] row = cells[region][y1];
            int y2 = y1;
            while (y2 + 1 < SIDE && java.util.Arrays.equals(row, cells[region][y2 + 1])) {
                y2++;
            }
            if (!empty(row)) {
                addRuns(found, row, y1, y2);
            }
            y1 = y2 + 1;
        }
        return found;
    }

    private static void addRuns(List<Integer> found, boolean[] row, int y1, int y2) {
        int x1 = -1;
        for (int x = 0; x <= SIDE; x++) {
            boolean cell = x < SIDE && row[x];
            if (cell && x1 < 0) {
                x1 = x;
            }
            if (!cell && x1 >= 0) {
                found.add(x1 + 32 * y1 + 1024 * (x - 1) + 32768 * y2);
                x1 = -1;
            }
        }
    }

    private int rectangles(int region) {
        return good(region) ? allRectangles(region).size() : -1;
    }

    private int rectangle(int region, int i) {
        if (!good(region)) {
            return -1;
        }
        List<Integer> found = allRectangles(region);
        return i >= 0 && i < found.size() ? found.get(i) : -3;
    }

    private int around(int region) {
        if (!good(region)) {
            return -1;
        }
        int x1 = SIDE;
        int y1 = SIDE;
        int x2 = -1;
        int y2 = -1;
        for (int y = 0; y < SIDE; y++) {
            for (int x = 0; x < SIDE; x++) {
                if (cells[region][y][x]) {
                    x1 = Math.min(x1, x);
                    y1 = Math.min(y1, y);
                    x2 = Math.max(x2, x);
                    y2 = Math.max(y2, y);
                }
            }
        }
        return x2 < 0 ? -3 : x1 + 32 * y1 + 1024 * x2 + 32768 * y2;
    }

    private boolean same(int a, int b) {
        return good(a) && good(b) && java.util.Arrays.deepEquals(cells[a], cells[b]);
    }

    private int covers(int region, int corner, int size) {
        if (!good(region)) {
            return -1;
        }
        boolean[][] box = boxCells(corner, size);
        int inside = 0;
        int outside = 0;
        for (int y = 0; y < SIDE; y++) {
            for (int x = 0; x < SIDE; x++) {
                if (box[y][x]) {
                    inside += cells[region][y][x] ? 1 : 0;
                    outside += cells[region][y][x] ? 0 : 1;
                }
            }
        }
        return inside == 0 ? 0 : outside == 0 ? 2 : 1;
    }

    private static int odd() {
        return ODD[next(ODD.length)];
    }

    private static int someRegion() {
        return next(25) == 0 ? odd() : next(3);
    }

    private static int someKind() {
        return next(25) == 0 ? odd() : next(4);
    }

    private static int someBits() {
        int high = next(10) == 0 ? next(1 << 21) << 10 : 0;
        return high | (next(2) == 0 ? next(1024) : next(26) + 32 * next(26));
    }

    private static int someSize() {
        return next(3) == 0 ? someBits() : next(8) + 32 * next(8);
    }

    private static int someStep() {
        int choice = next(20);
        return choice == 0 ? odd() : choice == 1 ? next(60) - 30 : next(7) - 3;
    }

    private static int somePlace() {
        return next(20) == 0 ? odd() : next(26) - 1;
    }

    private static void due(String call, int got, int want) {
        if (got != want) {
            wrong++;
            System.out.println(call + " answered " + got + ", due is " + want);
        }
    }

    private void step(BandRegion b, String at) {
        int r = someRegion();
        int s = someRegion();
        int t = someRegion();
        int kind = someKind();
        int corner = someBits();
        int size = someSize();
        int x = somePlace();
        int y = somePlace();
        int dx = someStep();
        int dy = someStep();
        switch (next(16)) {
            case 0: case 1: case 2: case 3: case 4:
                due(at + "box(" + r + ", " + kind + ", " + corner + ", " + size + ")",
                    b.box(r, kind, corner, size), box(r, kind, corner, size));
                break;
            case 5:
                due(at + "combine(" + r + ", " + s + ", " + t + ", " + kind + ")",
                    b.combine(r, s, t, kind), combine(r, s, t, kind));
                break;
            case 6:
                due(at + "move(" + r + ", " + dx + ", " + dy + ")", b.move(r, dx, dy), move(r, dx, dy));
                break;
            case 7:
                due(at + "invert(" + r + ")", b.invert(r), invert(r));
                break;
            case 8:
                due(at + "area(" + r + ")", b.area(r), area(r));
                break;
            case 9:
                due(at + "has(" + r + ", " + x + ", " + y + ")", b.has(r, x, y) ? 1 : 0, has(r, x, y) ? 1 : 0);
                break;
            case 10:
                due(at + "rectangles(" + r + ")", b.rectangles(r), rectangles(r));
                break;
            case 11: case 12:
                due(at + "rectangle(" + r + ", " + x + ")", b.rectangle(r, x), rectangle(r, x));
                break;
            case 13:
                due(at + "around(" + r + ")", b.around(r), around(r));
                break;
            case 14:
                due(at + "same(" + r + ", " + s + ")", b.same(r, s) ? 1 : 0, same(r, s) ? 1 : 0);
                break;
            default:
                due(at + "covers(" + r + ", " + corner + ", " + size + ")",
                    b.covers(r, corner, size), covers(r, corner, size));
                break;
        }
    }

    public static void main(String[] args) {
        for (int run = 0; run < RUNS && wrong < 20; run++) {
            seed = run;
            BandRegion b = new BandRegion();
            ModelTest model = new ModelTest();
            for (int call = 0; call < CALLS && wrong < 20; call++) {
                model.step(b, "run " + run + ", call " + call + ": ");
            }
        }
        System.exit(wrong == 0 ? 0 : 1);
    }
}
