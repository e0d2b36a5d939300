/** The calls that README.md shows, in its order, answer what it writes beside them. */
public final class ReadmeTest {
    private static int wrong = 0;

    private static void due(String call, int got, int want) {
        if (got != want) {
            wrong++;
            System.out.println("README.md: " + call + " answered " + got + ", due is " + want);
        }
    }

    private static void due(String call, boolean got, boolean want) {
        if (got != want) {
            wrong++;
            System.out.println("README.md: " + call + " answered " + got + ", due is " + want);
        }
    }

    private static void example() {
        BandRegion b = new BandRegion();
        due("box of region 0", b.box(0, BandRegion.UNION, 2 + 32 * 2, 10 + 32 * 5), 50);
        due("box of region 1", b.box(1, BandRegion.UNION, 8 + 32 * 4, 10 + 32 * 8), 80);
        due("combine", b.combine(2, 0, 1, BandRegion.UNION), 118);
        due("rectangles", b.rectangles(2), 3);
        due("rectangle 0", b.rectangle(2, 0), 109634);
        due("rectangle 3", b.rectangle(2, 3), -3);
        due("around", b.around(2), 377922);
        due("has", b.has(2, 11, 3), true);
        due("covers", b.covers(2, 3 + 32 * 3, 2 + 32 * 2), 2);
        due("move", b.move(2, -8, 0), 88);
        due("invert", b.invert(2), 488);
        due("same", b.same(0, 1), false);
        due("box of region 3", b.box(3, BandRegion.UNION, 0, 1 + 32 * 1), -1);
        due("box of kind 4", b.box(0, 4, 0, 1 + 32 * 1), -2);
    }

    private static void takingARectangleApart() {
        BandRegion b = new BandRegion();
        b.box(0, BandRegion.UNION, 20 + 32 * 3, 4 + 32 * 21);
        int packed = b.rectangle(0, 0);
        due("x1", packed & 31, 20);
        due("y1", packed >> 5 & 31, 3);
        due("x2", packed >> 10 & 31, 23);
        due("y2", packed >> 15 & 31, 23);
    }

    public static void main(String[] args) {
        example();
        takingARectangleApart();
        System.exit(wrong == 0 ? 0 : 1);
    }
}
