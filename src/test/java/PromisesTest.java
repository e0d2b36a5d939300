/** One method for each promise of the document: ordinary inputs, the edges it names, and wrong inputs. */
public final class PromisesTest {
    private static final int[] BAD_REGIONS = {-1, 3, 4, 32, Integer.MIN_VALUE, Integer.MAX_VALUE};
    private static final int[] BAD_KINDS = {-1, 4, 5, 32, Integer.MIN_VALUE, Integer.MAX_VALUE};
    private static final int WHOLE = size(24, 24);
    private static int wrong = 0;

    private static void due(String what, long got, long want) {
        if (got != want) {
            wrong++;
            System.out.println(what + " answered " + got + ", due is " + want);
        }
    }

    private static void due(String what, boolean got, boolean want) {
        due(what, got ? 1L : 0L, want ? 1L : 0L);
    }

    private static int corner(int left, int top) {
        return left + 32 * top;
    }

    private static int size(int width, int height) {
        return width + 32 * height;
    }

    private static int packed(int x1, int y1, int x2, int y2) {
        return x1 + 32 * y1 + 1024 * x2 + 32768 * y2;
    }

    private static int add(BandRegion b, int region, int left, int top, int width, int height) {
        return b.box(region, BandRegion.UNION, corner(left, top), size(width, height));
    }

    /** The cells of a region as text, read by has alone. */
    private static String cells(BandRegion b, int region, int fromX, int fromY, int width, int height) {
        StringBuilder text = new StringBuilder();
        for (int y = fromY; y < fromY + height; y++) {
            for (int x = fromX; x < fromX + width; x++) {
                text.append(b.has(region, x, y) ? '#' : '.');
            }
            text.append('/');
        }
        return text.toString();
    }

    private static void dueCells(String what, BandRegion b, int region, int width, int height, String want) {
        String got = cells(b, region, 0, 0, width, height);
        if (!got.equals(want)) {
            wrong++;
            System.out.println(what + " has the cells " + got + ", due is " + want);
        }
    }

    private static void newObject() {
        BandRegion b = new BandRegion();
        for (int r = 0; r < 3; r++) {
            due("1: area of a new region", b.area(r), 0);
            due("1: rectangles of a new region", b.rectangles(r), 0);
            due("1: rectangle 0 of a new region", b.rectangle(r, 0), BandRegion.NONE);
            due("1: around a new region", b.around(r), BandRegion.NONE);
            due("1: covers of a new region", b.covers(r, 0, WHOLE), BandRegion.OUT);
            due("1: same of new regions", b.same(r, (r + 1) % 3), true);
        }
        for (int i = 0; i < 3; i++) {
            BandRegion used = new BandRegion();
            used.invert(i);
            due("1: a new object beside a used one", new BandRegion().area(i), 0);
        }
        for (int y = 0; y < 20; y++) {
            for (int x = 0; x < 24; x++) {
                due("1: has of a new region", b.has(0, x, y), false);
            }
        }
    }

    private static BandRegion twoByTwo() {
        BandRegion b = new BandRegion();
        add(b, 0, 0, 0, 2, 2);
        return b;
    }

    private static void boxKinds() {
        BandRegion b = twoByTwo();
        due("2: union", b.box(0, BandRegion.UNION, corner(1, 1), size(2, 2)), 7);
        dueCells("2: union", b, 0, 4, 4, "##../###./.##./..../");
        b = twoByTwo();
        due("2: intersect", b.box(0, BandRegion.INTERSECT, corner(1, 1), size(2, 2)), 1);
        dueCells("2: intersect", b, 0, 4, 4, "..../.#../..../..../");
        b = twoByTwo();
        due("2: subtract", b.box(0, BandRegion.SUBTRACT, corner(1, 1), size(2, 2)), 3);
        dueCells("2: subtract", b, 0, 4, 4, "##../#.../..../..../");
        b = twoByTwo();
        due("2: xor", b.box(0, BandRegion.XOR, corner(1, 1), size(2, 2)), 6);
        dueCells("2: xor", b, 0, 4, 4, "##../#.#./.##./..../");
        due("2: another region", b.area(1) + b.area(2), 0);
    }

    private static void boxEdges() {
        BandRegion b = new BandRegion();
        due("2: the whole screen", add(b, 0, 0, 0, 24, 24), 576);
        due("2: beyond the whole screen", add(b, 1, 0, 0, 31, 31), 576);
        due("2: last cell", add(b, 2, 23, 23, 1, 1), 1);
        due("2: last cell lies", b.has(2, 23, 23), true);
        b = new BandRegion();
        due("2: over the right and lower edge", add(b, 0, 22, 21, 31, 31), 6);
        due("2: over the edge, first cell", b.around(0), packed(22, 21, 23, 23));
        due("2: left of 24 is beyond", add(b, 1, 24, 0, 31, 31), 0);
        due("2: left of 31 is beyond", add(b, 1, 31, 0, 31, 31), 0);
        due("2: top of 24 is beyond", add(b, 1, 0, 24, 31, 31), 0);
        due("2: top of 31 is beyond", add(b, 1, 0, 31, 31, 31), 0);
        due("2: width 0", add(b, 1, 3, 3, 0, 9), 0);
        due("2: height 0", add(b, 1, 3, 3, 9, 0), 0);
        due("2: width 31 from 1", add(b, 1, 1, 0, 31, 1), 23);
        due("2: subtract an empty box", b.box(1, BandRegion.SUBTRACT, 0, 0), 23);
        due("2: xor an empty box", b.box(1, BandRegion.XOR, 0, size(0, 5)), 23);
        due("2: intersect with an empty box", b.box(1, BandRegion.INTERSECT, 0, size(5, 0)), 0);
    }

    private static void boxOtherBits() {
        BandRegion b = new BandRegion();
        int high = ~1023;
        due("2: other bits", b.box(0, BandRegion.UNION, high | corner(2, 3), high | size(4, 5)), 20);
        due("2: other bits, place", b.around(0), packed(2, 3, 5, 7));
        due("2: bit 10 alone", b.box(1, BandRegion.UNION, 1024, 1024 | size(1, 1)), 1);
        due("2: size -1 is 31 by 31", b.box(2, BandRegion.UNION, 0, -1), 576);
        due("2: corner -1 is beyond", b.box(2, BandRegion.INTERSECT, -1, -1), 0);
    }

    private static void boxRefused() {
        BandRegion b = twoByTwo();
        for (int bad : BAD_REGIONS) {
            due("2: bad region", b.box(bad, BandRegion.UNION, 0, WHOLE), BandRegion.BAD_REGION);
            due("2: bad region before bad kind", b.box(bad, 4, 0, WHOLE), BandRegion.BAD_REGION);
        }
        for (int bad : BAD_KINDS) {
            due("2: bad kind", b.box(0, bad, corner(1, 1), size(2, 2)), BandRegion.BAD_KIND);
        }
        dueCells("2: refused", b, 0, 3, 3, "##./##./.../");
        due("2: refused, others", b.area(1) + b.area(2), 0);
    }

    private static BandRegion overlapping() {
        BandRegion b = twoByTwo();
        add(b, 1, 1, 1, 2, 2);
        add(b, 2, 9, 9, 5, 5);
        return b;
    }

    private static void combineKinds() {
        BandRegion b = overlapping();
        due("3: union", b.combine(2, 0, 1, BandRegion.UNION), 7);
        dueCells("3: union", b, 2, 4, 4, "##../###./.##./..../");
        due("3: intersect", b.combine(2, 0, 1, BandRegion.INTERSECT), 1);
        dueCells("3: intersect", b, 2, 4, 4, "..../.#../..../..../");
        due("3: subtract", b.combine(2, 0, 1, BandRegion.SUBTRACT), 3);
        dueCells("3: subtract", b, 2, 4, 4, "##../#.../..../..../");
        due("3: subtract the other way", b.combine(2, 1, 0, BandRegion.SUBTRACT), 3);
        dueCells("3: subtract the other way", b, 2, 4, 4, "..../..#./.##./..../");
        due("3: xor", b.combine(2, 0, 1, BandRegion.XOR), 6);
        dueCells("3: xor", b, 2, 4, 4, "##../#.#./.##./..../");
        dueCells("3: a stays", b, 0, 4, 4, "##../##../..../..../");
        dueCells("3: b stays", b, 1, 4, 4, "..../.##./.##./..../");
    }

    private static void combineSameRegions() {
        BandRegion b = overlapping();
        due("3: to is a", b.combine(0, 0, 1, BandRegion.SUBTRACT), 3);
        dueCells("3: to is a", b, 0, 4, 4, "##../#.../..../..../");
        b = overlapping();
        due("3: to is b", b.combine(1, 0, 1, BandRegion.SUBTRACT), 3);
        dueCells("3: to is b", b, 1, 4, 4, "##../#.../..../..../");
        due("3: a is b, union", b.combine(2, 0, 0, BandRegion.UNION), 4);
        due("3: a is b, subtract", b.combine(2, 0, 0, BandRegion.SUBTRACT), 0);
        due("3: all one, union", b.combine(0, 0, 0, BandRegion.UNION), 4);
        due("3: all one, intersect", b.combine(0, 0, 0, BandRegion.INTERSECT), 4);
        due("3: all one, xor", b.combine(0, 0, 0, BandRegion.XOR), 0);
        due("3: all one, subtract", b.combine(1, 1, 1, BandRegion.SUBTRACT), 0);
    }

    private static void combineRefused() {
        BandRegion b = overlapping();
        for (int bad : BAD_REGIONS) {
            due("3: bad to", b.combine(bad, 0, 1, BandRegion.UNION), BandRegion.BAD_REGION);
            due("3: bad a", b.combine(2, bad, 1, BandRegion.UNION), BandRegion.BAD_REGION);
            due("3: bad b", b.combine(2, 0, bad, BandRegion.UNION), BandRegion.BAD_REGION);
            due("3: bad b before bad kind", b.combine(2, 0, bad, -1), BandRegion.BAD_REGION);
            due("3: bad a before bad kind", b.combine(2, bad, 0, 4), BandRegion.BAD_REGION);
            due("3: bad to before bad kind", b.combine(bad, 0, 0, 4), BandRegion.BAD_REGION);
        }
        for (int bad : BAD_KINDS) {
            due("3: bad kind", b.combine(2, 0, 1, bad), BandRegion.BAD_KIND);
        }
        due("3: refused, 0", b.around(0), packed(0, 0, 1, 1));
        due("3: refused, 1", b.around(1), packed(1, 1, 2, 2));
        due("3: refused, 2", b.around(2), packed(9, 9, 13, 13));
    }

    private static BandRegion corners() {
        BandRegion b = new BandRegion();
        add(b, 0, 0, 0, 1, 1);
        add(b, 0, 23, 0, 1, 1);
        add(b, 0, 0, 23, 1, 1);
        add(b, 0, 23, 23, 1, 1);
        return b;
    }

    private static void moveNear() {
        int[][] steps = {{1, 0}, {-1, 0}, {0, 1}, {0, -1}, {1, 1}, {-1, -1}, {3, -2}, {-2, 3}};
        for (int[] step : steps) {
            BandRegion b = new BandRegion();
            add(b, 1, 5, 6, 3, 2);
            add(b, 1, 5, 8, 1, 4);
            add(b, 2, 9, 9, 2, 2);
            String what = "4: move by " + step[0] + ", " + step[1];
            due(what, b.move(1, step[0], step[1]), 10);
            due(what, b.rectangles(1), 2);
            due(what, b.rectangle(1, 0), packed(5 + step[0], 6 + step[1], 7 + step[0], 7 + step[1]));
            due(what, b.rectangle(1, 1), packed(5 + step[0], 8 + step[1], 5 + step[0], 11 + step[1]));
            due(what + ", another region", b.around(2), packed(9, 9, 10, 10));
        }
    }

    private static void moveOverEdges() {
        due("4: right, lost", corners().move(0, 1, 0), 2);
        due("4: left, lost", corners().move(0, -1, 0), 2);
        due("4: down, lost", corners().move(0, 0, 1), 2);
        due("4: up, lost", corners().move(0, 0, -1), 2);
        BandRegion b = corners();
        due("4: not at all", b.move(0, 0, 0), 4);
        due("4: one cell stays", b.move(0, 23, 23), 1);
        due("4: which cell stays", b.has(0, 23, 23), true);
        due("4: and back", b.move(0, -23, -23), 1);
        due("4: back at", b.has(0, 0, 0), true);
        b = corners();
        b.move(0, 1, 1);
        due("4: lost cells stay lost", b.move(0, -1, -1), 1);
    }

    private static void moveFar() {
        int[] far = {24, -24, 25, -25, 31, -31, 32, -32, 33, -33, 64, -64, 1 << 24, 1 << 30,
            Integer.MAX_VALUE, Integer.MAX_VALUE - 1, Integer.MIN_VALUE, Integer.MIN_VALUE + 1, Integer.MIN_VALUE + 32};
        for (int distance : far) {
            int[][] steps = {{distance, 0}, {0, distance}, {distance, distance}};
            for (int[] step : steps) {
                BandRegion b = new BandRegion();
                b.invert(0);
                b.invert(1);
                due("4: far by " + step[0] + ", " + step[1], b.move(0, step[0], step[1]), 0);
                due("4: far, area", b.area(0), 0);
                due("4: far, another region", b.area(1), 576);
            }
        }
    }

    private static void moveRefused() {
        BandRegion b = corners();
        for (int bad : BAD_REGIONS) {
            due("4: bad region", b.move(bad, 1, 1), BandRegion.BAD_REGION);
            due("4: bad region, far", b.move(bad, 99, 0), BandRegion.BAD_REGION);
        }
        due("4: refused", b.area(0), 4);
    }

    private static void invert() {
        BandRegion b = twoByTwo();
        due("5: invert", b.invert(0), 572);
        dueCells("5: invert", b, 0, 3, 3, "..#/..#/###/");
        due("5: last cell", b.has(0, 23, 23), true);
        due("5: and back", b.invert(0), 4);
        dueCells("5: and back", b, 0, 3, 3, "##./##./.../");
        due("5: empty to full", b.invert(1), 576);
        due("5: full has one rectangle", b.rectangle(1, 0), packed(0, 0, 23, 23));
        b.box(2, BandRegion.UNION, 0, WHOLE);
        due("5: inverted is the same as filled", b.same(1, 2), true);
        due("5: nothing beyond the screen", b.move(1, -1, 0), 552);
        due("5: the column left free", b.invert(1), 24);
        due("5: the column left free, place", b.around(1), packed(23, 0, 23, 23));
        b.combine(1, 2, 2, BandRegion.UNION);
        due("5: full to empty", b.invert(1), 0);
        due("5: full to empty, another one", b.invert(2), 0);
        due("5: another region", b.area(2), 0);
        for (int bad : BAD_REGIONS) {
            due("5: bad region", b.invert(bad), BandRegion.BAD_REGION);
        }
        due("5: refused", b.area(0) + b.area(1) + b.area(2), 4);
    }

    private static void area() {
        BandRegion b = new BandRegion();
        add(b, 0, 0, 0, 1, 1);
        add(b, 1, 2, 3, 4, 5);
        add(b, 1, 3, 4, 4, 5);
        b.invert(2);
        due("6: one cell", b.area(0), 1);
        due("6: cells of two boxes count once", b.area(1), 28);
        due("6: full", b.area(2), 576);
        for (int bad : BAD_REGIONS) {
            due("6: bad region", b.area(bad), BandRegion.BAD_REGION);
        }
    }

    private static void has() {
        BandRegion b = new BandRegion();
        add(b, 0, 5, 7, 2, 3);
        due("7: first cell", b.has(0, 5, 7), true);
        due("7: last cell", b.has(0, 6, 9), true);
        due("7: left of it", b.has(0, 4, 7), false);
        due("7: right of it", b.has(0, 7, 7), false);
        due("7: above it", b.has(0, 5, 6), false);
        due("7: below it", b.has(0, 5, 10), false);
        due("7: x and y not exchanged", b.has(0, 7, 5), false);
        due("7: another region", b.has(1, 5, 7), false);
        for (int r = 0; r < 3; r++) {
            b.box(r, BandRegion.UNION, 0, WHOLE);
        }
        int[] off = {-1, -8, -24, -32, 24, 25, 31, 32, 48, 64, Integer.MIN_VALUE, Integer.MAX_VALUE};
        for (int place : off) {
            for (int r = 0; r < 3; r++) {
                due("7: x " + place, b.has(r, place, 3), false);
                due("7: y " + place, b.has(r, 3, place), false);
            }
        }
        for (int bad : BAD_REGIONS) {
            due("7: bad region", b.has(bad, 3, 3), false);
        }
        due("7: corners", b.has(2, 0, 0) && b.has(2, 23, 0) && b.has(2, 0, 23) && b.has(2, 23, 23), true);
    }

    /** Rows 2 and 3 equal, row 4 different, row 5 empty, rows 6 and 7 like row 4. */
    private static BandRegion banded() {
        BandRegion b = new BandRegion();
        add(b, 1, 2, 2, 3, 2);
        add(b, 1, 8, 2, 1, 2);
        add(b, 1, 2, 4, 7, 1);
        add(b, 1, 2, 6, 7, 2);
        return b;
    }

    private static void rectangles() {
        BandRegion b = banded();
        due("8: bands and runs", b.rectangles(1), 4);
        due("8: an empty region", b.rectangles(0), 0);
        b.invert(0);
        due("8: a full region", b.rectangles(0), 1);
        add(b, 2, 3, 3, 4, 1);
        add(b, 2, 3, 4, 4, 1);
        due("8: equal rows are one band", b.rectangles(2), 1);
        add(b, 2, 7, 3, 2, 2);
        due("8: boxes side by side are one run", b.rectangles(2), 1);
        add(b, 2, 0, 23, 1, 1);
        add(b, 2, 23, 23, 1, 1);
        add(b, 2, 0, 0, 24, 1);
        due("8: first and last rows", b.rectangles(2), 4);
        due("8: region 1 is its own", b.rectangles(1), 4);
        for (int bad : BAD_REGIONS) {
            due("8: bad region", b.rectangles(bad), BandRegion.BAD_REGION);
        }
    }

    private static void rectanglesOfNeighbourRegions() {
        BandRegion b = new BandRegion();
        add(b, 0, 4, 23, 5, 1);
        add(b, 1, 4, 0, 5, 2);
        due("8: a band begins with its region", b.rectangles(1), 1);
        due("9: a band begins with its region", b.rectangle(1, 0), packed(4, 0, 8, 1));
        due("9: a band ends with its region", b.rectangle(0, 0), packed(4, 23, 8, 23));
    }

    private static void chequered() {
        BandRegion b = new BandRegion();
        for (int i = 0; i < 24; i += 2) {
            add(b, 0, i, 0, 1, 24);
            add(b, 1, 0, i, 24, 1);
        }
        b.combine(2, 0, 1, BandRegion.XOR);
        due("8: the most rectangles", b.rectangles(2), 288);
        for (int i = 0; i < 288; i++) {
            int y = i / 12;
            int x = i % 12 * 2 + (y + 1) % 2;
            due("9: chequered rectangle " + i, b.rectangle(2, i), packed(x, y, x, y));
        }
        due("9: beyond the most", b.rectangle(2, 288), BandRegion.NONE);
    }

    private static void rectangle() {
        BandRegion b = banded();
        due("9: first band, first run", b.rectangle(1, 0), packed(2, 2, 4, 3));
        due("9: first band, second run", b.rectangle(1, 1), packed(8, 2, 8, 3));
        due("9: second band", b.rectangle(1, 2), packed(2, 4, 8, 4));
        due("9: after an empty row", b.rectangle(1, 3), packed(2, 6, 8, 7));
        int[] beyond = {4, 5, 288, 576, Integer.MAX_VALUE, -1, -2, Integer.MIN_VALUE};
        for (int i : beyond) {
            due("9: no rectangle " + i, b.rectangle(1, i), BandRegion.NONE);
            due("9: empty, no rectangle " + i, b.rectangle(0, i), BandRegion.NONE);
        }
        for (int bad : BAD_REGIONS) {
            due("9: bad region", b.rectangle(bad, 0), BandRegion.BAD_REGION);
            due("9: bad region before none", b.rectangle(bad, -1), BandRegion.BAD_REGION);
        }
        b = corners();
        due("9: corner 0", b.rectangle(0, 0), packed(0, 0, 0, 0));
        due("9: corner 1", b.rectangle(0, 1), packed(23, 0, 23, 0));
        due("9: corner 2", b.rectangle(0, 2), packed(0, 23, 0, 23));
        due("9: corner 3", b.rectangle(0, 3), packed(23, 23, 23, 23));
    }

    private static void around() {
        BandRegion b = banded();
        due("10: several bands", b.around(1), packed(2, 2, 8, 7));
        due("10: empty", b.around(0), BandRegion.NONE);
        add(b, 0, 0, 0, 1, 1);
        due("10: the first cell", b.around(0), 0);
        add(b, 0, 23, 23, 1, 1);
        due("10: first and last cell", b.around(0), packed(0, 0, 23, 23));
        add(b, 2, 20, 3, 1, 1);
        add(b, 2, 4, 17, 1, 1);
        due("10: right above left", b.around(2), packed(4, 3, 20, 17));
        b.box(2, BandRegion.SUBTRACT, corner(4, 17), size(1, 1));
        due("10: it shrinks", b.around(2), packed(20, 3, 20, 3));
        b.move(2, 24, 0);
        due("10: empty again", b.around(2), BandRegion.NONE);
        for (int bad : BAD_REGIONS) {
            due("10: bad region", b.around(bad), BandRegion.BAD_REGION);
        }
    }

    private static void same() {
        BandRegion b = twoByTwo();
        due("11: empty ones", b.same(1, 2), true);
        due("11: with itself", b.same(0, 0), true);
        due("11: empty and not", b.same(0, 1), false);
        add(b, 1, 0, 0, 1, 2);
        due("11: a part", b.same(0, 1), false);
        due("11: a part, turned round", b.same(1, 0), false);
        add(b, 1, 1, 0, 1, 2);
        due("11: made otherwise", b.same(0, 1), true);
        add(b, 2, 1, 1, 2, 2);
        due("11: equal areas", b.same(0, 2), false);
        add(b, 0, 23, 23, 1, 1);
        due("11: the last cell differs", b.same(0, 1), false);
        b.move(0, 9, 9);
        b.move(0, -9, -9);
        due("11: nothing is left of lost cells", b.same(0, 1), true);
        for (int bad : BAD_REGIONS) {
            due("11: bad a", b.same(bad, 0), false);
            due("11: bad b", b.same(0, bad), false);
            due("11: both bad and equal", b.same(bad, bad), false);
        }
    }

    private static void covers() {
        BandRegion b = new BandRegion();
        add(b, 1, 5, 6, 4, 3);
        due("12: just the region", b.covers(1, corner(5, 6), size(4, 3)), BandRegion.IN);
        due("12: inside", b.covers(1, corner(6, 7), size(1, 1)), BandRegion.IN);
        due("12: one column too wide", b.covers(1, corner(5, 6), size(5, 3)), BandRegion.PART);
        due("12: one row too high", b.covers(1, corner(5, 5), size(4, 3)), BandRegion.PART);
        due("12: around it", b.covers(1, corner(0, 0), WHOLE), BandRegion.PART);
        due("12: beside it", b.covers(1, corner(9, 6), size(4, 3)), BandRegion.OUT);
        due("12: below it", b.covers(1, corner(5, 9), size(4, 3)), BandRegion.OUT);
        due("12: another region", b.covers(0, corner(5, 6), size(4, 3)), BandRegion.OUT);
        due("12: width 0", b.covers(1, corner(6, 7), size(0, 1)), BandRegion.OUT);
        due("12: height 0", b.covers(1, corner(6, 7), size(1, 0)), BandRegion.OUT);
        due("12: other bits", b.covers(1, ~1023 | corner(5, 6), ~1023 | size(4, 3)), BandRegion.IN);
        b.invert(2);
        due("12: only cells on the screen count", b.covers(2, corner(20, 20), size(31, 31)), BandRegion.IN);
        due("12: a full region", b.covers(2, 0, size(31, 31)), BandRegion.IN);
        due("12: beyond on the right", b.covers(2, corner(24, 0), size(5, 5)), BandRegion.OUT);
        due("12: beyond below", b.covers(2, corner(0, 24), size(5, 5)), BandRegion.OUT);
        for (int bad : BAD_REGIONS) {
            due("12: bad region", b.covers(bad, corner(5, 6), size(4, 3)), BandRegion.BAD_REGION);
            due("12: bad region, empty box", b.covers(bad, 0, 0), BandRegion.BAD_REGION);
        }
    }

    private static void askEverything(BandRegion b) {
        for (int r = -1; r <= 3; r++) {
            b.area(r);
            b.has(r, 3, 3);
            b.rectangles(r);
            b.rectangle(r, 1);
            b.around(r);
            b.same(r, 1);
            b.covers(r, corner(2, 2), size(9, 9));
        }
    }

    private static void askingChangesNothing() {
        BandRegion b = banded();
        b.combine(0, 1, 1, BandRegion.UNION);
        add(b, 2, 3, 3, 1, 1);
        askEverything(b);
        due("6 to 12: copy stays", b.same(0, 1), true);
        due("6 to 12: region 0 stays", b.area(0), 29);
        due("6 to 12: region 2 stays", b.around(2), packed(3, 3, 3, 3));
        due("6 to 12: rectangles stay", b.rectangles(1), 4);
        due("6 to 12: a later change", b.combine(0, 0, 2, BandRegion.SUBTRACT), 28);
    }

    public static void main(String[] args) {
        newObject();
        boxKinds();
        boxEdges();
        boxOtherBits();
        boxRefused();
        combineKinds();
        combineSameRegions();
        combineRefused();
        moveNear();
        moveOverEdges();
        moveFar();
        moveRefused();
        invert();
        area();
        has();
        rectangles();
        rectanglesOfNeighbourRegions();
        chequered();
        rectangle();
        around();
        same();
        covers();
        askingChangesNothing();
        System.exit(wrong == 0 ? 0 : 1);
    }
}
