/** The sentences of "Terms" on operations and on growing and shrinking. */
public final class OperationBoundaryTests {
    private static final Check CHECK = new Check("OperationBoundaryTests");
    private static final int EMPTY = 0;
    private static final int FULL = 1;
    private static final int LEFT = 2;
    private static final int RIGHT = 3;

    public static void main(String[] args) throws Exception {
        Boundaries.run(OperationBoundaryTests.class, CHECK, args);
    }

    /** Layer 0 has no squares, 1 has all, 2 and 3 have 16 each and 4 of them in common. */
    private static EdgeSweeps fourLayers() {
        EdgeSweeps sweeps = new EdgeSweeps(4);
        Draw.box(sweeps, FULL, 0, 0, 64, 64);
        Draw.box(sweeps, LEFT, 60, 60, 64, 64);
        Draw.box(sweeps, RIGHT, 58, 58, 62, 62);
        return sweeps;
    }

    /** The squares of an operation on two of the four layers. */
    private static void squares(EdgeSweeps sweeps, int what, int a, int b, int due) {
        long twice = sweeps.area2(sweeps.op(what, a, b), 0);
        CHECK.same("squares of op(" + what + ", " + a + ", " + b + ")", twice, 2L * due);
    }

    private static void allPairs(int what, int... due) {
        EdgeSweeps sweeps = fourLayers();
        for (int a = 0; a < 4; a++) {
            for (int b = 0; b < 4; b++) {
                squares(sweeps, what, a, b, due[4 * a + b]);
            }
        }
    }

    @Sentence(of = "Terms", words = "0 UNION")
    static void unionOfEmptyAndFull() {
        allPairs(0, 0, 4096, 16, 16, 4096, 4096, 4096, 4096, 16, 4096, 16, 28, 16, 4096, 28, 16);
    }

    @Sentence(of = "Terms", words = "1 COMMON")
    static void commonOfEmptyAndFull() {
        allPairs(1, 0, 0, 0, 0, 0, 4096, 16, 16, 0, 16, 16, 4, 0, 16, 4, 16);
    }

    @Sentence(of = "Terms", words = "2 DIFFERENCE (of the first less the second)")
    static void differenceOfEmptyAndFull() {
        allPairs(2, 0, 0, 0, 0, 4096, 0, 4080, 4080, 16, 0, 0, 12, 16, 0, 12, 0);
        EdgeSweeps sweeps = fourLayers();
        int first = sweeps.op(2, LEFT, RIGHT);
        CHECK.yes("the first one's square stays", sweeps.in(first, 63, 63));
        CHECK.no("the second one's is not there", sweeps.in(first, 58, 58));
        CHECK.no("nor is a common one", sweeps.in(first, 60, 60));
    }

    @Sentence(of = "Terms", words = "3 EITHER (in just one)")
    static void eitherOfEmptyAndFull() {
        allPairs(3, 0, 4096, 16, 16, 4096, 0, 4080, 4080, 16, 4080, 0, 24, 16, 4080, 24, 0);
    }

    @Sentence(of = "Terms", words = "of the first one's shapes: 4 those INSIDE the second one (all their squares are in it)")
    static void insideAllOrAllButOne() {
        allPairs(4, 0, 0, 0, 0, 0, 4096, 0, 0, 0, 16, 16, 0, 0, 16, 0, 16);
        EdgeSweeps sweeps = new EdgeSweeps(2);
        Draw.box(sweeps, 0, 0, 0, 3, 3);
        Draw.box(sweeps, 0, 3, 3, 6, 6);
        Draw.box(sweeps, 0, 61, 61, 64, 64);
        Draw.box(sweeps, 1, 0, 0, 3, 3);
        Draw.path(sweeps, 1, 3, 3, 6, 3, 6, 5, 5, 5, 5, 6, 3, 6);
        Draw.box(sweeps, 1, 60, 60, 64, 64);
        int inside = sweeps.op(4, 0, 1);
        CHECK.same("two of three", sweeps.shapes(inside), 2);
        CHECK.same("whole", sweeps.area2(inside, 0), 2 * 18);
        CHECK.yes("the one that is the same", sweeps.in(inside, 0, 0));
        CHECK.no("the one with a square beyond, not even in part", sweeps.in(inside, 3, 3));
        CHECK.yes("the one at the rim", sweeps.in(inside, 63, 63));
    }

    /** The plane is inside no second one that lacks a square, wherever that square is. */
    @Sentence(of = "Terms", words = "(all their squares are in it)")
    static void insideAllButOneAtTheRims() {
        int[] places = {0, 1, 32, 62, 63};
        for (int x : places) {
            for (int y : places) {
                EdgeSweeps sweeps = new EdgeSweeps(3);
                Draw.box(sweeps, 0, 0, 0, 64, 64);
                Draw.box(sweeps, 1, x, y, x + 1, y + 1);
                int lacking = sweeps.op(2, 0, 1);
                String where = "square " + x + " " + y;
                CHECK.same("the plane lacking " + where, sweeps.shapes(sweeps.op(4, 0, lacking)), 0);
                CHECK.same(where + " in the rest", sweeps.shapes(sweeps.op(4, 1, lacking)), 0);
                CHECK.same(where + " in the plane", sweeps.area2(sweeps.op(4, 1, 0), 0), 2);
                CHECK.same("the rest in the plane", sweeps.area2(sweeps.op(4, lacking, 0), 0), 8190);
            }
        }
    }

    @Sentence(of = "Terms", words = "5 those that TOUCH it.")
    static void touchingInAPointOrNot() {
        allPairs(5, 0, 0, 0, 0, 0, 4096, 4096, 4096, 0, 16, 16, 16, 0, 16, 16, 16);
        EdgeSweeps sweeps = new EdgeSweeps(2);
        Draw.box(sweeps, 0, 0, 0, 3, 3);
        Draw.box(sweeps, 0, 10, 0, 13, 3);
        Draw.box(sweeps, 0, 20, 0, 23, 3);
        Draw.box(sweeps, 1, 3, 3, 4, 4);
        Draw.box(sweeps, 1, 14, 0, 15, 3);
        Draw.box(sweeps, 1, 21, 1, 22, 2);
        int touching = sweeps.op(5, 0, 1);
        CHECK.same("two of three, whole", sweeps.area2(touching, 0), 2 * 18);
        CHECK.yes("the one at a corner", sweeps.in(touching, 0, 0));
        CHECK.no("the one a square away", sweeps.in(touching, 10, 0));
        CHECK.yes("the one that has it inside", sweeps.in(touching, 20, 0));
    }

    // Growing

    @Sentence(of = "Terms", words = "SIZED by some number above 0: all squares of which the SQUARE ROUND has a square "
            + "of the area: squares not farther than that number in x and in y")
    static void grownByLeastAndGreatest() {
        EdgeSweeps sweeps = new EdgeSweeps(2);
        Draw.box(sweeps, 0, 30, 20, 31, 21);
        for (int by = 1; by < 20; by++) {
            int grown = sweeps.size(0, by, false);
            String box = (30 - by) + "," + (20 - by) + "," + (31 + by) + "," + (21 + by);
            CHECK.text("grown by " + by, Seen.boxes(sweeps, grown), box);
        }
        CHECK.same("nothing grown by 64", sweeps.area2(sweeps.size(1, 64, false), 0), 0);
        CHECK.same("nothing grown by 1", sweeps.area2(sweeps.size(1, 1, false), 0), 0);
    }

    @Sentence(of = "Terms", words = "squares not farther than that number in x and in y")
    static void grownAtTheRims() {
        int[] ends = {0, 63};
        for (int x : ends) {
            for (int y : ends) {
                EdgeSweeps sweeps = new EdgeSweeps(1);
                Draw.box(sweeps, 0, x, y, x + 1, y + 1);
                int[] numbers = {1, 2, 3, 31, 32, 33, 61, 62, 63, 64};
                for (int by : numbers) {
                    int side = Math.min(by + 1, 64);
                    int low = x == 0 ? 0 : 64 - side;
                    int down = y == 0 ? 0 : 64 - side;
                    String due = low + "," + down + "," + (low + side) + "," + (down + side);
                    String got = Seen.boxes(sweeps, sweeps.size(0, by, false));
                    CHECK.text("square " + x + " " + y + " grown by " + by, got, due);
                }
            }
        }
        EdgeSweeps full = Draw.plane();
        CHECK.same("the plane grown by 1", full.area2(full.size(0, 1, false), 0), 8192);
        CHECK.same("the plane grown by 64", full.area2(full.size(0, 64, true), 0), 8192);
    }

    // Shrinking

    @Sentence(of = "Terms",
            words = "below 0: those of which the square round (by minus the number) is all in the area")
    static void shrunkByLeastAndGreatest() {
        EdgeSweeps sweeps = new EdgeSweeps(1);
        Draw.box(sweeps, 0, 20, 10, 31, 17);
        CHECK.text("by 1", Seen.boxes(sweeps, sweeps.size(0, -1, false)), "21,11,30,16");
        CHECK.text("by 3, to the middle row", Seen.boxes(sweeps, sweeps.size(0, -3, false)), "23,13,28,14");
        CHECK.text("by 4, to nothing", Seen.boxes(sweeps, sweeps.size(0, -4, false)), "");
        CHECK.text("by 64", Seen.boxes(sweeps, sweeps.size(0, -64, false)), "");
        EdgeSweeps holed = new EdgeSweeps(2);
        Draw.box(holed, 0, 10, 10, 31, 31);
        Draw.box(holed, 1, 20, 20, 21, 21);
        int area = holed.op(2, 0, 1);
        int shrunk = holed.size(area, -2, false);
        CHECK.same("a hole grows", holed.area2(shrunk, 0), 2 * (17 * 17 - 25));
        CHECK.no("by the square round it", holed.in(shrunk, 18, 18));
        CHECK.yes("and no more", holed.in(shrunk, 17, 18));
        EdgeSweeps empty = new EdgeSweeps(1);
        CHECK.same("nothing shrunk is nothing", empty.area2(empty.size(0, -1, false), 0), 0);
    }

    @Sentence(of = "Terms", words = "(beyond the plane is nothing).")
    static void shrunkAtTheRims() {
        EdgeSweeps sweeps = Draw.plane();
        int[] numbers = {1, 2, 3, 30, 31};
        for (int by : numbers) {
            String due = by + "," + by + "," + (64 - by) + "," + (64 - by);
            CHECK.text("the plane by -" + by, Seen.boxes(sweeps, sweeps.size(0, -by, false)), due);
            CHECK.text("with an octagon by -" + by, Seen.boxes(sweeps, sweeps.size(0, -by, true)), due);
        }
        int[] all = {32, 33, 63, 64};
        for (int by : all) {
            CHECK.text("the plane by -" + by, Seen.boxes(sweeps, sweeps.size(0, -by, false)), "");
            CHECK.text("with an octagon by -" + by, Seen.boxes(sweeps, sweeps.size(0, -by, true)), "");
        }
        EdgeSweeps corner = new EdgeSweeps(1);
        Draw.box(corner, 0, 59, 59, 64, 64);
        CHECK.text("a box at the corner", Seen.boxes(corner, corner.size(0, -1, false)), "60,60,63,63");
        Draw.box(corner, 0, 0, 0, 5, 5);
        CHECK.text("and at the other one", Seen.boxes(corner, corner.size(0, -2, false)), "2,2,3,3 61,61,62,62");
    }

    // Octagons

    @Sentence(of = "Terms", words = "With an OCTAGON, in its place: not farther than the number in one, and than its "
            + "half in the other direction")
    static void octagonGrown() {
        EdgeSweeps sweeps = new EdgeSweeps(1);
        Draw.box(sweeps, 0, 10, 10, 11, 11);
        CHECK.text("by 2", Seen.squares(sweeps, sweeps.size(0, 2, true), 7, 7, 7, 7),
                "......./..###../.#####./.#####./.#####./..###../.......");
        CHECK.text("by 4", Seen.boxes(sweeps, sweeps.size(0, 4, true)),
                "8,6,13,8 6,8,15,13 8,13,13,15");
        CHECK.text("cut off at the rim", Seen.boxes(sweeps, sweeps.size(0, 20, true)),
                "0,0,31,21 0,21,21,31");
        EdgeSweeps end = new EdgeSweeps(1);
        Draw.box(end, 0, 63, 63, 64, 64);
        CHECK.text("by 64 at the last square", Seen.boxes(end, end.size(0, 64, true)), "31,0,64,31 0,31,64,64");
        CHECK.text("by 62 at the last square", Seen.boxes(end, end.size(0, 62, true)), "32,1,64,32 1,32,64,64");
    }

    @Sentence(of = "Terms", words = "(the half rounded down).")
    static void halfRoundedDown() {
        EdgeSweeps sweeps = new EdgeSweeps(1);
        Draw.box(sweeps, 0, 10, 10, 11, 11);
        CHECK.text("by 1, half 0", Seen.boxes(sweeps, sweeps.size(0, 1, true)), "10,9,11,10 9,10,12,11 10,11,11,12");
        CHECK.text("by 3, half 1", Seen.boxes(sweeps, sweeps.size(0, 3, true)), "9,7,12,9 7,9,14,12 9,12,12,14");
        CHECK.text("by 5, half 2", Seen.boxes(sweeps, sweeps.size(0, 5, true)), "8,5,13,8 5,8,16,13 8,13,13,16");
        EdgeSweeps end = new EdgeSweeps(1);
        Draw.box(end, 0, 0, 0, 1, 1);
        CHECK.text("by 63, half 31", Seen.boxes(end, end.size(0, 63, true)), "0,0,64,32 0,32,32,64");
    }

    /** Shrinking rounds the half of minus the number: -1 asks for a cross of five squares. */
    @Sentence(of = "Terms", words = "than its half in the other direction (the half rounded down).")
    static void octagonShrunk() {
        EdgeSweeps cross = Draw.pictured(9, 9, ".#.", "###", ".#.");
        CHECK.text("by -1, half 0: a cross is enough", Seen.boxes(cross, cross.size(0, -1, true)), "10,10,11,11");
        CHECK.text("a square round is not there", Seen.boxes(cross, cross.size(0, -1, false)), "");
        CHECK.text("by -2, half 1: it is not enough", Seen.boxes(cross, cross.size(0, -2, true)), "");
        EdgeSweeps three = new EdgeSweeps(1);
        Draw.box(three, 0, 9, 7, 12, 14);
        Draw.box(three, 0, 7, 9, 14, 12);
        CHECK.text("by -3, half 1", Seen.boxes(three, three.size(0, -3, true)), "10,10,11,11");
        CHECK.text("by -4, half 2", Seen.boxes(three, three.size(0, -4, true)), "");
        EdgeSweeps lying = new EdgeSweeps(1);
        Draw.box(lying, 0, 7, 9, 14, 12);
        CHECK.text("one of the two directions is not enough", Seen.boxes(lying, lying.size(0, -3, true)), "");
    }
}
