import java.util.Arrays;

/**
 * One method for each sentence of the document that names a boundary case; what it prints begins with that sentence.
 * Cells are read from objects made anew for each row, so that no object is used for more than 512 calls.
 */
public final class BoundariesTest {
    private interface Recipe {
        void make(BandRegion b);
    }

    private interface Shape {
        boolean has(int x, int y);
    }

    private interface Call {
        long answer(BandRegion b);
    }

    private static final int MIN = Integer.MIN_VALUE;
    private static final int MAX = Integer.MAX_VALUE;
    // 1 << 29 and MIN, times 24, wrap round to 0: a row number made of them would look right.
    private static final int[] WRONG_REGIONS = {-1, 3, -2, 4, 23, 24, 256, 65536, 1 << 29, (1 << 29) + 1, -(1 << 29),
        1 << 30, MIN, MIN + 1, MIN + 2, MAX};
    private static final int[] WRONG_KINDS = {-1, 4, -2, 5, 7, 8, 32, 256, 65536, MIN, MIN + 1, MAX};
    private static final int[] KINDS = {BandRegion.UNION, BandRegion.INTERSECT, BandRegion.SUBTRACT, BandRegion.XOR};
    private static final int FULL = size(24, 24);
    private static final Shape NOTHING = (x, y) -> false;
    private static final Shape EVERYTHING = (x, y) -> true;
    // A ring inside the screen, the screen's border, and the two top rows with the last column.
    private static final Shape[] SHAPES = {
        (x, y) -> within(x, 3, 9) && within(y, 4, 10) && !(within(x, 5, 6) && within(y, 6, 7)),
        (x, y) -> x == 0 || y == 0 || x == 23 || y == 23,
        (x, y) -> y < 2 || x == 23,
    };
    private static final int[] AREAS = {45, 92, 70};

    private static String sentence = "";
    private static int wrong = 0;

    private static void begin(String words) {
        sentence = words;
    }

    private static void tell(String text) {
        wrong++;
        if (wrong <= 100) {
            System.out.println("'" + sentence + "': " + text);
        }
    }

    private static void due(String what, long got, long want) {
        if (got != want) {
            tell(what + " answered " + got + ", due is " + want);
        }
    }

    private static void due(String what, boolean got, boolean want) {
        due(what, number(got), number(want));
    }

    private static long number(boolean answer) {
        return answer ? 1 : 0;
    }

    private static boolean within(int place, int first, int last) {
        return place >= first && place <= last;
    }

    private static int corner(int left, int top) {
        return left + 32 * top;
    }

    private static int size(int width, int height) {
        return width + 32 * height;
    }

    private static int packed(int x1, int y1, int x2, int y2) {
        return x1 + 32 * y1 + 1024 * x2 + 32768 * y2;
    }

    private static int add(BandRegion b, int region, int left, int top, int width, int height) {
        return b.box(region, BandRegion.UNION, corner(left, top), size(width, height));
    }

    private static int cut(BandRegion b, int region, int left, int top, int width, int height) {
        return b.box(region, BandRegion.SUBTRACT, corner(left, top), size(width, height));
    }

    private static BandRegion made(Recipe recipe) {
        BandRegion b = new BandRegion();
        recipe.make(b);
        return b;
    }

    private static int countOf(Shape shape) {
        int count = 0;
        for (int i = 0; i < 576; i++) {
            count += shape.has(i % 24, i / 24) ? 1 : 0;
        }
        return count;
    }

    private static boolean mixed(boolean a, boolean b, int kind) {
        switch (kind) {
            case BandRegion.UNION:
                return a || b;
            case BandRegion.INTERSECT:
                return a && b;
            case BandRegion.SUBTRACT:
                return a && !b;
            default:
                return a != b;
        }
    }

    private static Shape mix(Shape a, Shape b, int kind) {
        return (x, y) -> mixed(a.has(x, y), b.has(x, y), kind);
    }

    private static void dueCells(String what, Recipe recipe, int region, Shape want) {
        for (int y = 0; y < 24; y++) {
            BandRegion b = made(recipe);
            for (int x = 0; x < 24; x++) {
                if (b.has(region, x, y) != want.has(x, y)) {
                    tell(what + ": cell (" + x + ", " + y + ") of region " + region + " is not as due");
                    return;
                }
            }
        }
        due(what + ": area of region " + region, made(recipe).area(region), countOf(want));
    }

    private static void dueRectangles(String what, BandRegion b, int region, int... want) {
        due(what + ": rectangles", b.rectangles(region), want.length);
        for (int i = 0; i < want.length; i++) {
            due(what + ": rectangle " + i, b.rectangle(region, i), want[i]);
        }
        due(what + ": the rectangle after the last one", b.rectangle(region, want.length), BandRegion.NONE);
    }

    private static void threeShapes(BandRegion b) {
        add(b, 0, 3, 4, 7, 7);
        cut(b, 0, 5, 6, 2, 2);
        add(b, 1, 0, 0, 24, 24);
        cut(b, 1, 1, 1, 22, 22);
        add(b, 2, 0, 0, 24, 2);
        add(b, 2, 23, 0, 1, 24);
    }

    /** The call answers what is due, and all three regions keep their cells. */
    private static void dueUnchanged(String what, Call call, long want) {
        due(what, call.answer(made(BoundariesTest::threeShapes)), want);
        Recipe recipe = b -> {
            threeShapes(b);
            call.answer(b);
        };
        for (int r = 0; r < 3; r++) {
            dueCells(what, recipe, r, SHAPES[r]);
        }
    }

    /** The call answers how many cells the shape has, its region becomes the shape, and the other two stay. */
    private static void dueChange(String what, Call call, int region, Shape want) {
        due(what, call.answer(made(BoundariesTest::threeShapes)), countOf(want));
        Recipe recipe = b -> {
            threeShapes(b);
            call.answer(b);
        };
        for (int r = 0; r < 3; r++) {
            dueCells(what, recipe, r, r == region ? want : SHAPES[r]);
        }
    }

    // What it is

    private static void cellsFrom0To23() {
        begin("a region is a set of cells (x, y) with x and y 0 to 23");
        for (int i = 0; i < 576; i++) {
            int left = i % 24;
            int top = i / 24;
            BandRegion b = new BandRegion();
            due("one cell", add(b, 1, left, top, 1, 1), 1);
            due("one cell lies there", b.has(1, left, top), true);
            due("around one cell", b.around(1), packed(left, top, left, top));
            due("the regions beside it", b.area(0) + b.area(2), 0);
        }
    }

    /** 511 boxes of one cell each, taken from the three regions in turn, none of them twice. */
    private static void fillTo511(BandRegion b) {
        for (int i = 0; i < 511; i++) {
            int place = i / 3;
            add(b, i % 3, place % 24, place / 24, 1, 1);
        }
    }

    private static void dueLast(String what, Recipe first511, Call last, long want) {
        due("call 512, " + what, last.answer(made(first511)), want);
    }

    private static void last512OfChanges() {
        begin("An object is used for at most 512 calls after it has been made (after 511 changes)");
        Recipe fill = BoundariesTest::fillTo511;
        // Regions 0, 1 and 2 hold their cells 0 to 170 or 169: seven rows and three, or two, cells of the eighth.
        dueLast("area 0", fill, b -> b.area(0), 171);
        dueLast("area 1", fill, b -> b.area(1), 170);
        dueLast("area 2", fill, b -> b.area(2), 170);
        dueLast("box", fill, b -> add(b, 2, 23, 23, 1, 1), 171);
        dueLast("combine", fill, b -> b.combine(2, 0, 1, BandRegion.XOR), 1);
        dueLast("move", fill, b -> b.move(0, 0, -7), 3);
        dueLast("invert", fill, b -> b.invert(1), 406);
        dueLast("has", fill, b -> number(b.has(0, 2, 7)), 1);
        dueLast("has not", fill, b -> number(b.has(1, 2, 7)), 0);
        dueLast("rectangles", fill, b -> b.rectangles(1), 2);
        dueLast("rectangle", fill, b -> b.rectangle(0, 1), packed(0, 7, 2, 7));
        dueLast("no rectangle", fill, b -> b.rectangle(0, 2), BandRegion.NONE);
        dueLast("around", fill, b -> b.around(2), packed(0, 0, 23, 7));
        dueLast("same", fill, b -> number(b.same(1, 2)), 1);
        dueLast("not the same", fill, b -> number(b.same(0, 1)), 0);
        dueLast("covers, in", fill, b -> b.covers(0, corner(0, 6), size(3, 2)), BandRegion.IN);
        dueLast("covers, part", fill, b -> b.covers(1, corner(0, 6), size(3, 2)), BandRegion.PART);
        dueLast("covers, out", fill, b -> b.covers(1, corner(2, 7), size(31, 31)), BandRegion.OUT);
        dueLast("bad region", fill, b -> b.box(3, 9, 0, 0), BandRegion.BAD_REGION);
        dueLast("bad kind", fill, b -> b.box(2, 4, 0, 0), BandRegion.BAD_KIND);
        for (int i = 0; i < 576; i++) {
            int x = i % 24;
            int y = i / 24;
            dueLast("every cell", fill, b -> number(b.has(1, x, y)), number(i < 170));
        }
    }

    private static void times511(BandRegion b, Call call) {
        for (int i = 0; i < 511; i++) {
            call.answer(b);
        }
    }

    private static void last512OfOneCall() {
        begin("An object is used for at most 512 calls after it has been made (of one kind)");
        dueLast("invert", b -> times511(b, o -> o.invert(2)), b -> b.invert(2), 0);
        dueLast("area after inverts", b -> times511(b, o -> o.invert(2)), b -> b.area(2), 576);
        dueLast("refused", b -> times511(b, o -> o.box(1, 4, 0, FULL)), b -> b.area(1), 0);
        dueLast("bad region", b -> times511(b, o -> o.invert(3)), b -> b.invert(1), 576);
        dueLast("asked", b -> times511(b, o -> o.rectangle(0, 0)), b -> add(b, 0, 0, 0, 2, 3), 6);
        dueLast("xor", b -> times511(b, o -> o.box(0, BandRegion.XOR, 0, FULL)), b -> b.rectangles(0), 1);
        dueLast("move 0, 0", b -> times511(b, o -> o.move(0, 0, 0)), b -> b.around(0), BandRegion.NONE);
        dueLast("combine", b -> times511(b, o -> o.combine(0, 1, 2, BandRegion.UNION)), b -> number(b.same(0, 2)), 1);
    }

    private static void every512th() {
        begin("An object is used for at most 512 calls after it has been made (each answer of a run)");
        BandRegion b = new BandRegion();
        for (int i = 1; i <= 512; i++) {
            int place = i - 1;
            due("call " + i, b.box(2, BandRegion.XOR, corner(place % 24, place / 24), size(1, 1)), i);
        }
    }

    // Terms: a box

    private static void otherBitsOfABox() {
        begin("other bits are not looked at (box)");
        for (int bit = 10; bit < 32; bit++) {
            int other = 1 << bit;
            for (int kind : KINDS) {
                Shape box = (x, y) -> within(x, 2, 6) && within(y, 5, 8);
                Shape want = mix(SHAPES[0], box, kind);
                dueChange("corner bit " + bit, b -> b.box(0, kind, other | corner(2, 5), size(5, 4)), 0, want);
                dueChange("size bit " + bit, b -> b.box(0, kind, corner(2, 5), other | size(5, 4)), 0, want);
            }
        }
        dueChange("all of them", b -> b.box(0, BandRegion.INTERSECT, ~1023 | corner(3, 4), ~1023 | size(1, 2)), 0,
            (x, y) -> x == 3 && within(y, 4, 5));
        dueChange("other bits alone make an empty box", b -> b.box(0, BandRegion.INTERSECT, 0, ~1023), 0, NOTHING);
        dueChange("-1 as size is 31 by 31", b -> b.box(0, BandRegion.UNION, 0, -1), 0, EVERYTHING);
        dueChange("-1 as corner is 31, 31", b -> b.box(0, BandRegion.UNION, -1, -1), 0, SHAPES[0]);
    }

    private static void otherBitsOfCovers() {
        begin("other bits are not looked at (covers)");
        BandRegion b = made(BoundariesTest::threeShapes);
        for (int bit = 10; bit < 32; bit++) {
            int other = 1 << bit;
            due("corner bit " + bit + ", in", b.covers(0, other | corner(3, 4), size(7, 2)), BandRegion.IN);
            due("size bit " + bit + ", in", b.covers(0, corner(3, 4), other | size(7, 2)), BandRegion.IN);
            due("corner bit " + bit + ", part", b.covers(0, other | corner(3, 4), size(7, 3)), BandRegion.PART);
            due("size bit " + bit + ", part", b.covers(0, corner(3, 4), other | size(7, 3)), BandRegion.PART);
            due("corner bit " + bit + ", out", b.covers(0, other | corner(5, 6), size(2, 2)), BandRegion.OUT);
            due("size bit " + bit + ", out", b.covers(0, corner(5, 6), other | size(2, 2)), BandRegion.OUT);
        }
        due("all of them", b.covers(0, ~1023 | corner(3, 4), ~1023 | size(7, 2)), BandRegion.IN);
        due("other bits alone make an empty box", b.covers(1, 0, ~1023), BandRegion.OUT);
    }

    private static void everyLeftAndWidth() {
        begin("Its cells are those with left <= x < left + width, as far as they lie on the screen");
        for (int left = 0; left < 32; left++) {
            BandRegion b = new BandRegion();
            for (int width = 0; width < 32; width++) {
                int want = Math.max(0, Math.min(24, left + width) - left);
                String what = "left " + left + ", width " + width;
                due(what, add(b, 1, left, 9, width, 1), want);
                due(what + ": place", b.around(1), want == 0 ? BandRegion.NONE : packed(left, 9, left + want - 1, 9));
                due(what + ": taken away", cut(b, 1, left, 9, width, 1), 0);
            }
        }
    }

    private static void everyTopAndHeight() {
        begin("Its cells are those with top <= y < top + height, as far as they lie on the screen");
        for (int top = 0; top < 32; top++) {
            BandRegion b = new BandRegion();
            for (int height = 0; height < 32; height++) {
                int want = Math.max(0, Math.min(24, top + height) - top);
                String what = "top " + top + ", height " + height;
                due(what, add(b, 1, 9, top, 1, height), want);
                due(what + ": place", b.around(1), want == 0 ? BandRegion.NONE : packed(9, top, 9, top + want - 1));
                due(what + ": taken away", cut(b, 1, 9, top, 1, height), 0);
            }
        }
    }

    private static void boxOverTheEdges() {
        begin("as far as they lie on the screen");
        for (int kind : KINDS) {
            for (int r = 0; r < 3; r++) {
                int region = r;
                dueChange("over the right edge", b -> b.box(region, kind, corner(22, 3), size(31, 4)), r,
                    mix(SHAPES[r], (x, y) -> x >= 22 && within(y, 3, 6), kind));
                dueChange("over the lower edge", b -> b.box(region, kind, corner(3, 22), size(4, 31)), r,
                    mix(SHAPES[r], (x, y) -> within(x, 3, 6) && y >= 22, kind));
                dueChange("over both edges", b -> b.box(region, kind, corner(23, 23), size(31, 31)), r,
                    mix(SHAPES[r], (x, y) -> x == 23 && y == 23, kind));
                dueChange("larger than the screen", b -> b.box(region, kind, 0, size(31, 31)), r,
                    mix(SHAPES[r], EVERYTHING, kind));
            }
        }
    }

    /** Corner and size of boxes without cells: width 0, height 0, both 0, beyond on the right, below, and both. */
    private static int[][] emptyBoxes() {
        return new int[][] {
            {corner(4, 5), size(0, 3)}, {corner(4, 5), size(0, 31)}, {corner(4, 5), size(3, 0)},
            {corner(4, 5), size(31, 0)}, {0, 0}, {corner(23, 23), 0}, {corner(24, 0), size(31, 31)},
            {corner(31, 0), size(31, 31)}, {corner(24, 5), size(1, 1)}, {corner(0, 24), size(31, 31)},
            {corner(0, 31), size(31, 31)}, {corner(5, 24), size(1, 1)}, {corner(24, 24), size(31, 31)},
            {corner(31, 31), size(31, 31)}, {corner(31, 31), 0},
        };
    }

    private static void emptyBox() {
        begin("so a box may be empty (width or height 0, or beyond the screen) (box)");
        for (int[] box : emptyBoxes()) {
            String what = "corner " + box[0] + ", size " + box[1];
            for (int r = 0; r < 3; r++) {
                int region = r;
                for (int kind : KINDS) {
                    dueChange(what + ", kind " + kind, b -> b.box(region, kind, box[0], box[1]), r,
                        kind == BandRegion.INTERSECT ? NOTHING : SHAPES[r]);
                }
            }
        }
    }

    private static void emptyBoxCovered() {
        begin("OUT if none of the box's cells lies in it (also if the box has no cells)");
        BandRegion b = new BandRegion();
        b.invert(1);
        for (int[] box : emptyBoxes()) {
            String what = "corner " + box[0] + ", size " + box[1];
            due(what + ", an empty region", b.covers(0, box[0], box[1]), BandRegion.OUT);
            due(what + ", a full region", b.covers(1, box[0], box[1]), BandRegion.OUT);
        }
    }

    // Terms: bands, runs and rectangles

    private static void bandsOfEqualRows() {
        begin("A BAND is a largest group of rows that are all equal and not empty");
        for (int first = 0; first < 24; first++) {
            for (int last = first; last < 24; last++) {
                BandRegion b = new BandRegion();
                for (int y = last; y >= first; y--) {
                    add(b, 1, 7, y, 2, 1);
                }
                dueRectangles("rows " + first + " to " + last, b, 1, packed(7, first, 8, last));
            }
        }
    }

    private static void bandsDiffer() {
        begin("so two neighbouring bands differ");
        BandRegion b = new BandRegion();
        add(b, 0, 4, 0, 6, 12);
        add(b, 0, 4, 12, 7, 12);
        dueRectangles("by one cell at the end", b, 0, packed(4, 0, 9, 11), packed(4, 12, 10, 23));
        add(b, 1, 0, 5, 24, 1);
        add(b, 1, 0, 6, 23, 1);
        add(b, 1, 1, 7, 23, 1);
        dueRectangles("by the screen's first or last cell", b, 1, packed(0, 5, 23, 5), packed(0, 6, 22, 6),
            packed(1, 7, 23, 7));
        add(b, 2, 0, 0, 24, 3);
        cut(b, 2, 12, 1, 1, 1);
        dueRectangles("by a hole", b, 2, packed(0, 0, 23, 0), packed(0, 1, 11, 1), packed(13, 1, 23, 1),
            packed(0, 2, 23, 2));
        add(b, 2, 12, 1, 1, 1);
        dueRectangles("not any more", b, 2, packed(0, 0, 23, 2));
    }

    private static void emptyRowBetweenBands() {
        begin("or an empty row lies between them");
        for (int gap = 1; gap < 23; gap++) {
            BandRegion b = new BandRegion();
            add(b, 1, 20, 0, 4, 24);
            cut(b, 1, 0, gap, 24, 1);
            dueRectangles("row " + gap + " is empty", b, 1, packed(20, 0, 23, gap - 1), packed(20, gap + 1, 23, 23));
            add(b, 1, 20, gap, 4, 1);
            dueRectangles("row " + gap + " is filled", b, 1, packed(20, 0, 23, 23));
        }
        BandRegion b = new BandRegion();
        int[] want = new int[12];
        for (int y = 0; y < 24; y += 2) {
            add(b, 0, 0, y, 24, 1);
            want[y / 2] = packed(0, y, 23, y);
        }
        dueRectangles("every other row", b, 0, want);
    }

    private static void emptyRowsGiveNothing() {
        begin("A BAND is a largest group of rows that are not empty");
        BandRegion b = new BandRegion();
        dueRectangles("all rows empty", b, 0);
        add(b, 0, 0, 0, 1, 1);
        dueRectangles("the first row alone", b, 0, packed(0, 0, 0, 0));
        add(b, 1, 23, 23, 1, 1);
        dueRectangles("the last row alone", b, 1, packed(23, 23, 23, 23));
    }

    private static void runsOfNeighbours() {
        begin("A RUN of a band is a largest group of neighbouring x in its row");
        for (int first = 0; first < 24; first++) {
            for (int last = first; last < 24; last++) {
                BandRegion b = new BandRegion();
                for (int x = last; x >= first; x--) {
                    add(b, 2, x, 11, 1, 2);
                }
                dueRectangles("x " + first + " to " + last, b, 2, packed(first, 11, last, 12));
            }
        }
        for (int gap = 1; gap < 23; gap++) {
            BandRegion b = new BandRegion();
            add(b, 0, 0, 22, 24, 2);
            cut(b, 0, gap, 0, 1, 24);
            dueRectangles("a gap at " + gap, b, 0, packed(0, 22, gap - 1, 23), packed(gap + 1, 22, 23, 23));
        }
    }

    private static void runsEndWithTheirRow() {
        begin("A RUN of a band is a largest group of neighbouring x in its row (not beyond the row's end)");
        BandRegion b = new BandRegion();
        add(b, 0, 23, 4, 1, 1);
        add(b, 0, 0, 5, 1, 1);
        dueRectangles("last cell of a row and first of the next", b, 0, packed(23, 4, 23, 4), packed(0, 5, 0, 5));
    }

    private static void bandsEndWithTheirRegion() {
        begin("THE RECTANGLES OF A REGION are fixed by its cells alone (not by the other regions)");
        BandRegion b = new BandRegion();
        for (int r = 0; r < 3; r++) {
            add(b, r, 6, 0, 3, 2);
            add(b, r, 6, 22, 3, 2);
        }
        for (int r = 0; r < 3; r++) {
            dueRectangles("region " + r, b, r, packed(6, 0, 8, 1), packed(6, 22, 8, 23));
        }
        b.combine(1, 1, 1, BandRegion.XOR);
        dueRectangles("an empty region between", b, 1);
        dueRectangles("above it", b, 0, packed(6, 0, 8, 1), packed(6, 22, 8, 23));
        dueRectangles("below it", b, 2, packed(6, 0, 8, 1), packed(6, 22, 8, 23));
    }

    private static void rectanglesByCellsAlone() {
        begin("THE RECTANGLES OF A REGION are fixed by its cells alone");
        BandRegion b = new BandRegion();
        add(b, 0, 5, 5, 9, 3);
        add(b, 0, 8, 8, 3, 4);
        add(b, 1, 8, 5, 3, 7);
        add(b, 1, 5, 5, 3, 3);
        add(b, 1, 11, 5, 3, 3);
        b.invert(2);
        b.box(2, BandRegion.INTERSECT, corner(5, 5), size(9, 7));
        cut(b, 2, 5, 8, 3, 4);
        cut(b, 2, 11, 8, 3, 4);
        for (int r = 0; r < 3; r++) {
            dueRectangles("made in way " + r, b, r, packed(5, 5, 13, 7), packed(8, 8, 10, 11));
        }
        due("all are the same", b.same(0, 1) && b.same(1, 2), true);
    }

    private static void rectanglesInOrder() {
        begin("they are numbered from 0, bands from top to bottom, within a band runs from left to right");
        BandRegion b = new BandRegion();
        add(b, 1, 0, 23, 2, 1);
        add(b, 1, 20, 0, 4, 2);
        add(b, 1, 10, 0, 1, 2);
        add(b, 1, 0, 0, 2, 2);
        add(b, 1, 15, 12, 2, 3);
        add(b, 1, 1, 12, 9, 3);
        dueRectangles("made in another order", b, 1, packed(0, 0, 1, 1), packed(10, 0, 10, 1), packed(20, 0, 23, 1),
            packed(1, 12, 9, 14), packed(15, 12, 16, 14), packed(0, 23, 1, 23));
    }

    private static void mostRectangles() {
        begin("Each band and run gives one rectangle (as many as the screen can hold)");
        for (int odd = 0; odd < 2; odd++) {
            BandRegion b = new BandRegion();
            for (int i = 0; i < 24; i += 2) {
                add(b, 0, i, 0, 1, 24);
                add(b, 1, 0, i + odd, 24, 1);
            }
            b.combine(2, 0, 1, BandRegion.XOR);
            int[] want = new int[288];
            for (int i = 0; i < 288; i++) {
                int y = i / 12;
                int x = i % 12 * 2 + (y + odd + 1) % 2;
                want[i] = packed(x, y, x, y);
            }
            dueRectangles("a chequered region", b, 2, want);
        }
    }

    // Terms: refused calls

    private static void wrongRegionOfChanges() {
        begin("A region number not in 0 to 2 is BAD_REGION; a refused call changes nothing (changing calls)");
        for (int bad : WRONG_REGIONS) {
            for (int kind : KINDS) {
                dueUnchanged("box of " + bad, b -> b.box(bad, kind, corner(2, 2), size(9, 9)), BandRegion.BAD_REGION);
            }
            dueUnchanged("move of " + bad, b -> b.move(bad, 1, -1), BandRegion.BAD_REGION);
            dueUnchanged("move by 0 of " + bad, b -> b.move(bad, 0, 0), BandRegion.BAD_REGION);
            dueUnchanged("far move of " + bad, b -> b.move(bad, MAX, MIN), BandRegion.BAD_REGION);
            dueUnchanged("invert of " + bad, b -> b.invert(bad), BandRegion.BAD_REGION);
        }
    }

    private static void wrongRegionOfQuestions() {
        begin("A region number not in 0 to 2 is BAD_REGION; a refused call changes nothing (asking calls)");
        for (int bad : WRONG_REGIONS) {
            dueUnchanged("area of " + bad, b -> b.area(bad), BandRegion.BAD_REGION);
            dueUnchanged("rectangles of " + bad, b -> b.rectangles(bad), BandRegion.BAD_REGION);
            dueUnchanged("rectangle of " + bad, b -> b.rectangle(bad, 0), BandRegion.BAD_REGION);
            dueUnchanged("around of " + bad, b -> b.around(bad), BandRegion.BAD_REGION);
            dueUnchanged("covers of " + bad, b -> b.covers(bad, 0, FULL), BandRegion.BAD_REGION);
            dueUnchanged("has of " + bad, b -> number(b.has(bad, 0, 0)), 0);
            dueUnchanged("same of " + bad, b -> number(b.same(bad, bad)), 0);
        }
    }

    private static void regionTestedFirst() {
        begin("BAD_REGION, tested first");
        for (int bad : WRONG_REGIONS) {
            for (int kind : WRONG_KINDS) {
                dueUnchanged("box of " + bad + ", kind " + kind, b -> b.box(bad, kind, 0, FULL), BandRegion.BAD_REGION);
            }
            dueUnchanged("combine", b -> b.combine(bad, 0, 1, 4), BandRegion.BAD_REGION);
            dueUnchanged("combine", b -> b.combine(0, bad, 1, -1), BandRegion.BAD_REGION);
            dueUnchanged("combine", b -> b.combine(0, 1, bad, MIN), BandRegion.BAD_REGION);
            dueUnchanged("rectangle -1", b -> b.rectangle(bad, -1), BandRegion.BAD_REGION);
            dueUnchanged("rectangle 288", b -> b.rectangle(bad, 288), BandRegion.BAD_REGION);
            dueUnchanged("covers of an empty box", b -> b.covers(bad, 0, 0), BandRegion.BAD_REGION);
        }
    }

    private static void everyRegionNumber() {
        begin("Three REGIONS (0 to 2)");
        for (int r = 0; r < 3; r++) {
            BandRegion b = new BandRegion();
            due("box", add(b, r, r, r, 2, 2), 4);
            due("area", b.area(r), 4);
            due("has", b.has(r, r + 1, r + 1), true);
            due("rectangles", b.rectangles(r), 1);
            due("rectangle", b.rectangle(r, 0), packed(r, r, r + 1, r + 1));
            due("around", b.around(r), packed(r, r, r + 1, r + 1));
            due("same", b.same(r, r), true);
            due("covers", b.covers(r, corner(r, r), size(2, 2)), BandRegion.IN);
            due("combine", b.combine(r, r, r, BandRegion.INTERSECT), 4);
            due("move", b.move(r, 22 - r, 22 - r), 4);
            due("invert", b.invert(r), 572);
            due("the others", b.area((r + 1) % 3) + b.area((r + 2) % 3), 0);
        }
    }

    // Ahead of promises 6 to 12

    private static void questionsChangeNothing() {
        begin("The calls below change nothing that any call answers");
        int[] places = {-1, 0, 5, 23, 24, MIN, MAX};
        for (int r = -1; r <= 3; r++) {
            int region = r;
            dueUnchanged("area " + r, b -> b.area(region), within(r, 0, 2) ? AREAS[r] : BandRegion.BAD_REGION);
            for (int place : places) {
                Recipe asked = b -> {
                    threeShapes(b);
                    b.has(region, place, 5);
                    b.has(region, 5, place);
                    b.rectangles(region);
                    b.rectangle(region, place);
                    b.around(region);
                    b.same(region, place);
                    b.same(place, region);
                    b.covers(region, place, size(9, 9));
                    b.covers(region, corner(2, 2), place);
                };
                for (int seen = 0; seen < 3; seen++) {
                    dueCells("asked with " + r + " and " + place, asked, seen, SHAPES[seen]);
                }
                due("a change after it", made(asked).combine(2, 2, 1, BandRegion.SUBTRACT), 22);
            }
        }
    }

    private static void questionsAnswerAgain() {
        begin("The calls below change nothing that any call answers (asked again)");
        BandRegion b = made(BoundariesTest::threeShapes);
        long[] first = answers(b);
        for (int again = 0; again < 8; again++) {
            due("the same answers", Arrays.equals(first, answers(b)), true);
        }
    }

    private static long[] answers(BandRegion b) {
        long[] all = new long[3 * 14];
        int at = 0;
        for (int r = 0; r < 3; r++) {
            all[at++] = b.area(r);
            all[at++] = number(b.has(r, 3, 4));
            all[at++] = number(b.has(r, 23, 23));
            all[at++] = b.rectangles(r);
            for (int i = -1; i < 5; i++) {
                all[at++] = b.rectangle(r, i);
            }
            all[at++] = b.around(r);
            all[at++] = number(b.same(r, (r + 1) % 3));
            all[at++] = b.covers(r, 0, FULL);
            all[at++] = b.covers(r, corner(23, 1), size(9, 9));
        }
        return all;
    }

    // Promise 1

    private static void newObjectIsEmpty() {
        begin("All regions are empty");
        Recipe nothing = b -> { };
        for (int r = 0; r < 3; r++) {
            dueCells("a new object", nothing, r, NOTHING);
            BandRegion b = new BandRegion();
            dueRectangles("a new object", b, r);
            due("around", b.around(r), BandRegion.NONE);
            due("same as 0", b.same(r, 0), true);
            due("same as 1", b.same(1, r), true);
            due("covers", b.covers(r, 0, FULL), BandRegion.OUT);
            due("move", b.move(r, 1, 1), 0);
            due("invert", b.invert(r), 576);
            due("an object made after it", new BandRegion().area(r), 0);
        }
        BandRegion older = new BandRegion();
        BandRegion younger = new BandRegion();
        older.invert(0);
        due("an object made before is its own", younger.area(0), 0);
        younger.invert(1);
        due("and the other way round", older.area(1), 0);
    }

    // Promise 2

    private static void boxOfEmptyAndFull() {
        begin("The region becomes: UNION, INTERSECT, SUBTRACT, XOR (an empty and a full region, an empty and a full box)");
        Shape box = (x, y) -> within(x, 4, 23) && within(y, 0, 9);
        int boxCorner = corner(4, 0);
        int boxSize = size(20, 10);
        for (int kind : KINDS) {
            dueCells("empty, some box", b -> b.box(1, kind, boxCorner, boxSize), 1, mix(NOTHING, box, kind));
            dueCells("empty, full box", b -> b.box(1, kind, 0, FULL), 1, mix(NOTHING, EVERYTHING, kind));
            dueCells("empty, empty box", b -> b.box(1, kind, 0, 0), 1, NOTHING);
            dueCells("full, some box", b -> {
                add(b, 1, 0, 0, 24, 24);
                due("answer", b.box(1, kind, boxCorner, boxSize), countOf(mix(EVERYTHING, box, kind)));
            }, 1, mix(EVERYTHING, box, kind));
            dueCells("full, full box", b -> {
                add(b, 1, 0, 0, 24, 24);
                due("answer", b.box(1, kind, 0, FULL), countOf(mix(EVERYTHING, EVERYTHING, kind)));
            }, 1, mix(EVERYTHING, EVERYTHING, kind));
            dueCells("full, empty box", b -> {
                add(b, 1, 0, 0, 24, 24);
                due("answer", b.box(1, kind, 0, 0), countOf(mix(EVERYTHING, NOTHING, kind)));
            }, 1, mix(EVERYTHING, NOTHING, kind));
        }
    }

    private static void wrongKindOfBox() {
        begin("kind not in 0 to 3: BAD_KIND (box)");
        for (int kind : WRONG_KINDS) {
            for (int r = 0; r < 3; r++) {
                int region = r;
                dueUnchanged("kind " + kind, b -> b.box(region, kind, corner(1, 1), size(9, 9)), BandRegion.BAD_KIND);
                dueUnchanged("kind " + kind + ", empty box", b -> b.box(region, kind, 0, 0), BandRegion.BAD_KIND);
            }
        }
    }

    // Promise 3

    private static void combineEveryThree() {
        begin("The three may be the same");
        for (int i = 0; i < 27; i++) {
            int to = i / 9;
            int a = i / 3 % 3;
            int c = i % 3;
            for (int kind : KINDS) {
                dueChange("combine(" + to + ", " + a + ", " + c + ", " + kind + ")", b -> b.combine(to, a, c, kind), to,
                    mix(SHAPES[a], SHAPES[c], kind));
            }
        }
    }

    private static void combineInOrder() {
        begin("in this order: SUBTRACT (the cells of a that don't lie in b)");
        dueChange("1 without 2", b -> b.combine(0, 1, 2, BandRegion.SUBTRACT), 0,
            (x, y) -> (x == 0 && y >= 2) || (y == 23 && x < 23));
        dueChange("2 without 1", b -> b.combine(0, 2, 1, BandRegion.SUBTRACT), 0,
            (x, y) -> y == 1 && within(x, 1, 22));
    }

    private static void combineEmptyAndFull() {
        begin("Region 'to' becomes what kind makes of regions a and b (an empty and a full one)");
        for (int kind : KINDS) {
            Recipe emptyFull = b -> {
                b.invert(1);
                due("empty and full", b.combine(2, 0, 1, kind), countOf(mix(NOTHING, EVERYTHING, kind)));
            };
            dueCells("empty and full", emptyFull, 2, mix(NOTHING, EVERYTHING, kind));
            Recipe fullEmpty = b -> {
                b.invert(1);
                due("full and empty", b.combine(2, 1, 0, kind), countOf(mix(EVERYTHING, NOTHING, kind)));
            };
            dueCells("full and empty", fullEmpty, 2, mix(EVERYTHING, NOTHING, kind));
        }
    }

    private static void combineWrongNumber() {
        begin("One number out of range: BAD_REGION");
        for (int bad : WRONG_REGIONS) {
            for (int kind : KINDS) {
                dueUnchanged("to " + bad, b -> b.combine(bad, 0, 1, kind), BandRegion.BAD_REGION);
                dueUnchanged("a " + bad, b -> b.combine(0, bad, 1, kind), BandRegion.BAD_REGION);
                dueUnchanged("b " + bad, b -> b.combine(0, 1, bad, kind), BandRegion.BAD_REGION);
            }
            dueUnchanged("all " + bad, b -> b.combine(bad, bad, bad, BandRegion.XOR), BandRegion.BAD_REGION);
        }
    }

    private static void wrongKindOfCombine() {
        begin("kind not in 0 to 3: BAD_KIND (combine)");
        for (int kind : WRONG_KINDS) {
            dueUnchanged("kind " + kind, b -> b.combine(0, 1, 2, kind), BandRegion.BAD_KIND);
            dueUnchanged("kind " + kind + ", to is a", b -> b.combine(1, 1, 2, kind), BandRegion.BAD_KIND);
            dueUnchanged("kind " + kind + ", to is b", b -> b.combine(2, 1, 2, kind), BandRegion.BAD_KIND);
            dueUnchanged("kind " + kind + ", all the same", b -> b.combine(2, 2, 2, kind), BandRegion.BAD_KIND);
        }
    }

    // Promise 4

    private static Shape moved(Shape shape, int dx, int dy) {
        return (x, y) -> {
            long fromX = (long) x - dx;
            long fromY = (long) y - dy;
            boolean onScreen = fromX >= 0 && fromX < 24 && fromY >= 0 && fromY < 24;
            return onScreen && shape.has((int) fromX, (int) fromY);
        };
    }

    private static void moveByAnyInts() {
        begin("any ints, negative ones to the left and up");
        int[] steps = {0, 1, -1, 2, -2, 12, -12, 22, -22, 23, -23, 24, -24, 25, -25, 31, -31, 32, -32, 33, -33, 64, 256,
            -256, 1 << 24, 1 << 29, 1 << 30, MAX, MAX - 1, MAX - 23, MIN, MIN + 1, MIN + 23, MIN + 24, MIN + 32};
        for (int dx : steps) {
            for (int dy : steps) {
                due("move by " + dx + ", " + dy,
                    made(BoundariesTest::threeShapes).move(1, dx, dy), countOf(moved(SHAPES[1], dx, dy)));
            }
            for (int r = 0; r < 3; r++) {
                int region = r;
                dueChange("move by " + dx + ", 0", b -> b.move(region, dx, 0), r, moved(SHAPES[r], dx, 0));
                dueChange("move by 0, " + dx, b -> b.move(region, 0, dx), r, moved(SHAPES[r], 0, dx));
                dueChange("move by both " + dx, b -> b.move(region, dx, dx), r, moved(SHAPES[r], dx, dx));
                dueChange("move by " + dx + ", 1", b -> b.move(region, dx, 1), r, moved(SHAPES[r], dx, 1));
                dueChange("move by -1, " + dx, b -> b.move(region, -1, dx), r, moved(SHAPES[r], -1, dx));
            }
        }
    }

    private static void movedOutIsLost() {
        begin("cells that leave the screen are lost");
        for (int step = 1; step <= 24; step++) {
            int left = 24 * (24 - step);
            int[][] ways = {{step, 0}, {-step, 0}, {0, step}, {0, -step}};
            for (int[] way : ways) {
                BandRegion b = new BandRegion();
                b.invert(1);
                String what = "by " + way[0] + ", " + way[1];
                due(what, b.move(1, way[0], way[1]), left);
                due(what + " and back", b.move(1, -way[0], -way[1]), left);
                due(what + ": the other regions", b.area(0) + b.area(2), 0);
            }
        }
        dueCells("out on the right and back", b -> {
            add(b, 0, 20, 5, 4, 2);
            b.move(0, 3, 0);
            b.move(0, -3, 0);
        }, 0, (x, y) -> x == 20 && within(y, 5, 6));
        dueCells("out below and back", b -> {
            add(b, 0, 5, 20, 2, 4);
            b.move(0, 0, 3);
            b.move(0, 0, -3);
        }, 0, (x, y) -> within(x, 5, 6) && y == 20);
    }

    private static void moveOfEmpty() {
        begin("Moves every cell of the region (of an empty one)");
        int[] steps = {0, 1, -1, 23, -24, MAX, MIN};
        BandRegion b = new BandRegion();
        b.invert(0);
        b.invert(2);
        for (int dx : steps) {
            for (int dy : steps) {
                due("by " + dx + ", " + dy, b.move(1, dx, dy), 0);
                due("by " + dx + ", " + dy + ": the others", b.area(0) + b.area(2), 1152);
            }
        }
    }

    // Promise 5

    private static void invertEmptyAndFull() {
        begin("The region becomes all cells of the screen that were not in it");
        for (int r = 0; r < 3; r++) {
            int region = r;
            BandRegion b = new BandRegion();
            due("an empty one", b.invert(r), 576);
            dueRectangles("an empty one", b, r, packed(0, 0, 23, 23));
            due("a full one", b.invert(r), 0);
            dueRectangles("a full one", b, r);
            dueCells("an empty one", o -> o.invert(region), r, EVERYTHING);
            dueCells("a full one", o -> {
                add(o, region, 0, 0, 24, 24);
                due("a full one", o.invert(region), 0);
            }, r, NOTHING);
            dueChange("neither", o -> o.invert(region), r, (x, y) -> !SHAPES[region].has(x, y));
            dueUnchanged("twice", o -> {
                o.invert(region);
                return o.invert(region);
            }, AREAS[r]);
        }
    }

    private static void invertOfTheScreenAlone() {
        begin("all cells of the screen (and none beyond it)");
        int[][] ways = {{1, 0}, {-1, 0}, {0, 1}, {0, -1}, {8, 0}, {-8, 0}, {0, 8}, {0, -8}};
        for (int[] way : ways) {
            BandRegion b = new BandRegion();
            b.invert(1);
            int lost = 24 * (Math.abs(way[0]) + Math.abs(way[1]));
            due("then moved by " + way[0] + ", " + way[1], b.move(1, way[0], way[1]), 576 - lost);
        }
        BandRegion b = new BandRegion();
        b.invert(0);
        add(b, 1, 0, 0, 24, 24);
        due("the same as a full box", b.same(0, 1), true);
    }

    // Promises 6 and 7

    private static void areaOfEmptyAndFull() {
        begin("How many cells the region has");
        BandRegion b = new BandRegion();
        due("empty", b.area(2), 0);
        add(b, 2, 23, 23, 1, 1);
        due("the last cell", b.area(2), 1);
        b.invert(2);
        due("all but one", b.area(2), 575);
        add(b, 2, 23, 23, 1, 1);
        due("full", b.area(2), 576);
        add(b, 2, 0, 0, 31, 31);
        due("cells given twice count once", b.area(2), 576);
    }

    private static void hasOutOfRange() {
        begin("false if the region or the cell is out of range");
        int[] off = {-1, 24, -2, 25, -24, -23, 47, 48, 31, 32, 33, -32, -31, 64, 256, 1 << 29, 1 << 30, MIN, MIN + 1, MAX};
        for (int r = 0; r < 3; r++) {
            BandRegion b = new BandRegion();
            for (int all = 0; all < 3; all++) {
                b.invert(all);
            }
            for (int place : off) {
                due("x " + place + " of region " + r, b.has(r, place, 0), false);
                due("x " + place + " of region " + r, b.has(r, place, 23), false);
                due("y " + place + " of region " + r, b.has(r, 0, place), false);
                due("y " + place + " of region " + r, b.has(r, 23, place), false);
                due("both " + place + " of region " + r, b.has(r, place, place), false);
            }
            for (int bad : WRONG_REGIONS) {
                due("region " + bad, b.has(bad, 0, 0), false);
                due("region " + bad, b.has(bad, 23, 23), false);
                due("region and cell " + bad, b.has(bad, bad, bad), false);
            }
            due("the first cell is in range", b.has(r, 0, 0), true);
            due("the last cell is in range", b.has(r, 23, 23), true);
            due("the other corners are in range", b.has(r, 0, 23) && b.has(r, 23, 0), true);
        }
    }

    // Promises 8 to 10

    private static void rectanglesOfEmptyAndFull() {
        begin("How many rectangles the region has");
        for (int r = 0; r < 3; r++) {
            BandRegion b = new BandRegion();
            due("empty", b.rectangles(r), 0);
            add(b, r, 0, 0, 1, 1);
            due("one cell", b.rectangles(r), 1);
            b.invert(r);
            due("all but the first cell", b.rectangles(r), 2);
            add(b, r, 0, 0, 1, 1);
            due("full", b.rectangles(r), 1);
        }
    }

    private static void noSuchRectangle() {
        begin("no such rectangle: NONE");
        int[] beyond = {4, 5, 23, 24, 32, 288, 576, 1 << 16, 1 << 30, MAX, MAX - 1, -1, -2, -4, -24, MIN, MIN + 1};
        BandRegion b = new BandRegion();
        add(b, 1, 0, 0, 1, 1);
        add(b, 1, 23, 0, 1, 1);
        add(b, 1, 0, 23, 1, 1);
        add(b, 1, 23, 23, 1, 1);
        b.invert(2);
        for (int i : beyond) {
            due("of four, number " + i, b.rectangle(1, i), BandRegion.NONE);
            due("of none, number " + i, b.rectangle(0, i), BandRegion.NONE);
            due("of one, number " + i, b.rectangle(2, i), BandRegion.NONE);
        }
        due("of none, number 0", b.rectangle(0, 0), BandRegion.NONE);
        due("of one, number 1", b.rectangle(2, 1), BandRegion.NONE);
        due("the last there is", b.rectangle(1, 3), packed(23, 23, 23, 23));
        due("the only one there is", b.rectangle(2, 0), packed(0, 0, 23, 23));
    }

    private static void firstAndLastCountedIn() {
        begin("(x1, y1) is its first and (x2, y2) its last cell, both counted in");
        BandRegion b = new BandRegion();
        add(b, 0, 0, 0, 1, 1);
        due("the first cell of the screen", b.rectangle(0, 0), 0);
        add(b, 1, 23, 23, 1, 1);
        due("the last cell of the screen", b.rectangle(1, 0), 23 + 32 * 23 + 1024 * 23 + 32768 * 23);
        add(b, 2, 2, 3, 4, 5);
        due("four by five", b.rectangle(2, 0), 2 + 32 * 3 + 1024 * 5 + 32768 * 7);
    }

    private static void aroundEmpty() {
        begin("the region is empty: NONE");
        for (int r = 0; r < 3; r++) {
            BandRegion b = new BandRegion();
            due("new", b.around(r), BandRegion.NONE);
            b.invert(r);
            due("full", b.around(r), packed(0, 0, 23, 23));
            b.invert(r);
            due("inverted twice", b.around(r), BandRegion.NONE);
            add(b, r, 0, 0, 1, 1);
            due("the first cell is not NONE", b.around(r), 0);
            b.move(r, -1, 0);
            due("moved out", b.around(r), BandRegion.NONE);
            b.invert((r + 1) % 3);
            due("beside a full one", b.around(r), BandRegion.NONE);
        }
    }

    private static void aroundSmallest() {
        begin("The smallest box around the region");
        for (int i = 0; i < 24; i++) {
            for (int k = i; k < 24; k++) {
                BandRegion b = new BandRegion();
                add(b, 0, k, i, 1, 1);
                add(b, 0, i, k, 1, 1);
                due("two cells, " + i + " and " + k, b.around(0), packed(i, i, k, k));
                add(b, 1, i, 23, 1, 1);
                add(b, 1, k, 0, 1, 1);
                due("two cells, x " + i + " and " + k, b.around(1), packed(i, 0, k, 23));
            }
        }
    }

    // Promises 11 and 12

    private static void sameOutOfRange() {
        begin("false if a number is out of range");
        BandRegion b = new BandRegion();
        for (int bad : WRONG_REGIONS) {
            for (int r = 0; r < 3; r++) {
                due("same(" + bad + ", " + r + ")", b.same(bad, r), false);
                due("same(" + r + ", " + bad + ")", b.same(r, bad), false);
            }
            due("both " + bad, b.same(bad, bad), false);
        }
        due("two wrong ones", b.same(-1, 3), false);
        due("in range", b.same(0, 2) && b.same(2, 0) && b.same(1, 1), true);
    }

    private static void sameByEachCell() {
        begin("Whether the two regions have the same cells");
        for (int i = 0; i < 576; i++) {
            BandRegion b = new BandRegion();
            b.invert(0);
            b.invert(2);
            due("full ones", b.same(0, 2), true);
            cut(b, 2, i % 24, i / 24, 1, 1);
            due("without cell " + i, b.same(0, 2), false);
            due("without cell " + i + ", turned round", b.same(2, 0), false);
            add(b, 1, i % 24, i / 24, 1, 1);
            b.invert(1);
            due("both without cell " + i, b.same(1, 2), true);
        }
    }

    private static void coversByOneCell() {
        begin("OUT if none of the box's cells lies in it, IN if all do, else PART");
        for (int i = 0; i < 576; i++) {
            int left = i % 24;
            int top = i / 24;
            BandRegion b = new BandRegion();
            add(b, 0, left, top, 1, 1);
            b.invert(1);
            cut(b, 1, left, top, 1, 1);
            b.invert(2);
            due("one cell of the screen is in", b.covers(0, 0, FULL), BandRegion.PART);
            due("one cell of the screen is not in", b.covers(1, 0, FULL), BandRegion.PART);
            due("a box of that cell, in", b.covers(0, corner(left, top), size(1, 1)), BandRegion.IN);
            due("a box of that cell, out", b.covers(1, corner(left, top), size(1, 1)), BandRegion.OUT);
            due("a full region", b.covers(2, corner(left, top), size(31, 31)), BandRegion.IN);
            due("the box left of it, out", b.covers(0, corner(0, top), size(left, 1)), BandRegion.OUT);
            due("the box below it, out", b.covers(0, corner(left, top + 1), size(1, 31)), BandRegion.OUT);
            due("the box right of it", b.covers(1, corner(left + 1, top), size(31, 1)),
                left == 23 ? BandRegion.OUT : BandRegion.IN);
            due("the box above it", b.covers(1, corner(left, 0), size(1, top)),
                top == 0 ? BandRegion.OUT : BandRegion.IN);
        }
    }

    private static void coversOverTheEdges() {
        begin("as far as they lie on the screen (covers)");
        BandRegion b = made(BoundariesTest::threeShapes);
        due("the last column", b.covers(2, corner(23, 0), size(31, 31)), BandRegion.IN);
        due("the last two columns", b.covers(2, corner(22, 0), size(31, 31)), BandRegion.PART);
        due("the last two columns, from row 2, without the last", b.covers(2, corner(22, 2), size(1, 31)), BandRegion.OUT);
        due("the last row", b.covers(1, corner(0, 23), size(31, 31)), BandRegion.IN);
        due("the last two rows", b.covers(1, corner(0, 22), size(31, 31)), BandRegion.PART);
        due("the last cell", b.covers(1, corner(23, 23), size(31, 31)), BandRegion.IN);
        due("the last cell, not in", b.covers(0, corner(23, 23), size(31, 31)), BandRegion.OUT);
        due("not on into the next region", b.covers(0, corner(0, 20), size(24, 31)), BandRegion.OUT);
    }

    private static void whatItIsAndTerms() {
        cellsFrom0To23();
        last512OfChanges();
        last512OfOneCall();
        every512th();
        otherBitsOfABox();
        otherBitsOfCovers();
        everyLeftAndWidth();
        everyTopAndHeight();
        boxOverTheEdges();
        emptyBox();
        bandsOfEqualRows();
        bandsDiffer();
        emptyRowBetweenBands();
        emptyRowsGiveNothing();
        runsOfNeighbours();
        runsEndWithTheirRow();
        bandsEndWithTheirRegion();
        rectanglesByCellsAlone();
        rectanglesInOrder();
        mostRectangles();
        wrongRegionOfChanges();
        wrongRegionOfQuestions();
        regionTestedFirst();
        everyRegionNumber();
        questionsChangeNothing();
        questionsAnswerAgain();
    }

    private static void changingCalls() {
        newObjectIsEmpty();
        boxOfEmptyAndFull();
        wrongKindOfBox();
        combineEveryThree();
        combineInOrder();
        combineEmptyAndFull();
        combineWrongNumber();
        wrongKindOfCombine();
        moveByAnyInts();
        movedOutIsLost();
        moveOfEmpty();
        invertEmptyAndFull();
        invertOfTheScreenAlone();
    }

    private static void askingCalls() {
        areaOfEmptyAndFull();
        hasOutOfRange();
        rectanglesOfEmptyAndFull();
        noSuchRectangle();
        firstAndLastCountedIn();
        aroundEmpty();
        aroundSmallest();
        sameOutOfRange();
        sameByEachCell();
        emptyBoxCovered();
        coversByOneCell();
        coversOverTheEdges();
    }

    public static void main(String[] args) {
        whatItIsAndTerms();
        changingCalls();
        askingCalls();
        if (wrong > 0) {
            System.out.println(wrong + " answers were not those that are due");
        }
        System.exit(wrong == 0 ? 0 : 1);
    }
}
