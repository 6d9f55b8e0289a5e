/** For each promise of the document: ordinary inputs, the edges that it names, wrong inputs. */
public final class PromiseTests {
    private static final Check CHECK = new Check("PromiseTests");
    private static final int LOW = Integer.MIN_VALUE;
    private static final int HIGH = Integer.MAX_VALUE;

    public static void main(String[] args) {
        newObject();
        polygon();
        corner();
        polygonSquares();
        opOfSquares();
        opOfShapes();
        opRefusals();
        sizeSquare();
        sizeOctagon();
        sizeRefusals();
        shapes();
        at();
        in();
        area2();
        touching();
        nets();
        netOf();
        strips();
        edge();
        trapezoid();
        clear();
        fullestArea();
        CHECK.end();
    }

    // Promise 1

    private static void newObject() {
        countLayers(1, LOW);
        countLayers(1, -1);
        countLayers(1, 0);
        countLayers(1, 1);
        countLayers(2, 2);
        countLayers(65535, 65535);
        countLayers(65536, 65536);
        countLayers(65536, 65537);
        countLayers(65536, HIGH);
        CHECK.same("NONE", EdgeSweeps.NONE, -1);
    }

    private static void countLayers(int due, int asked) {
        String name = "new EdgeSweeps(" + asked + ")";
        EdgeSweeps sweeps = new EdgeSweeps(asked);
        CHECK.same(name + " shapes of the last layer", sweeps.shapes(due - 1), 0);
        CHECK.noIndex(name + " one layer more", () -> sweeps.shapes(due));
        CHECK.noIndex(name + " layer -1", () -> sweeps.shapes(-1));
        CHECK.noIndex(name + " no polygons", () -> sweeps.corner(0, 0, 0) ? 1 : 0);
        CHECK.same(name + " polygon on the last layer", sweeps.polygon(due - 1), 0);
        CHECK.same(name + " first made layer", sweeps.op(0, 0, due - 1), due);
    }

    // Promise 2

    private static void polygon() {
        EdgeSweeps sweeps = new EdgeSweeps(2);
        CHECK.noIndex("polygon on layer -1", () -> sweeps.polygon(-1));
        CHECK.noIndex("polygon on layer 2 of 2", () -> sweeps.polygon(2));
        CHECK.noIndex("polygon on the least int", () -> sweeps.polygon(LOW));
        CHECK.noIndex("polygon on the greatest int", () -> sweeps.polygon(HIGH));
        sweeps.op(0, 0, 1);
        CHECK.noIndex("polygon on a made layer", () -> sweeps.polygon(2));
        for (int i = 0; i < 16; i++) {
            CHECK.same("polygon number", sweeps.polygon(i & 1), i);
        }
        CHECK.noState("polygon 17", () -> sweeps.polygon(0));
        CHECK.noIndex("polygon 17 on no layer", () -> sweeps.polygon(2));
        CHECK.noIndex("corner of polygon 17", () -> sweeps.corner(16, 0, 0) ? 1 : 0);
        CHECK.yes("corner of polygon 16", sweeps.corner(15, 0, 0));
    }

    // Promise 3

    private static void corner() {
        EdgeSweeps sweeps = new EdgeSweeps(1);
        CHECK.noIndex("corner without polygons", () -> corner(sweeps, 0, 0, 0));
        sweeps.polygon(0);
        CHECK.noIndex("corner of polygon -1", () -> corner(sweeps, -1, 0, 0));
        CHECK.noIndex("corner of polygon 1 of 1", () -> corner(sweeps, 1, 0, 0));
        CHECK.noIndex("corner of no polygon and no point", () -> corner(sweeps, 1, 65, 0));
        CHECK.noArgument("x -1", () -> corner(sweeps, 0, -1, 0));
        CHECK.noArgument("x 65", () -> corner(sweeps, 0, 65, 0));
        CHECK.noArgument("y -1", () -> corner(sweeps, 0, 0, -1));
        CHECK.noArgument("y 65", () -> corner(sweeps, 0, 0, 65));
        CHECK.noArgument("x that is 0 as an int", () -> corner(sweeps, 0, 1L << 32, 0));
        CHECK.noArgument("y that is 0 as an int", () -> corner(sweeps, 0, 0, 1L << 32));
        CHECK.noArgument("least x", () -> corner(sweeps, 0, Long.MIN_VALUE, 0));
        CHECK.noArgument("greatest y", () -> corner(sweeps, 0, 0, Long.MAX_VALUE));
        CHECK.same("the first one always is", corner(sweeps, 0, 64, 64), 1);
        CHECK.same("the same point", corner(sweeps, 0, 64, 64), 0);
        CHECK.same("both differ", corner(sweeps, 0, 0, 0), 0);
        CHECK.same("y differs", corner(sweeps, 0, 64, 0), 1);
        CHECK.same("x differs", corner(sweeps, 0, 0, 0), 1);
        CHECK.same("a refused point leaves the one before", corner(sweeps, 0, 64, 64), 0);
        CHECK.same("it closes", corner(sweeps, 0, 0, 64), 1);
        CHECK.same("refused corners are not there", sweeps.area2(0, 0), 8192);
        fullPolygon();
    }

    private static void fullPolygon() {
        EdgeSweeps sweeps = new EdgeSweeps(1);
        sweeps.polygon(0);
        for (int i = 0; i < 16; i++) {
            CHECK.same("corner " + i + " of stairs", corner(sweeps, 0, (i + 1) / 2, i / 2), 1);
            if (i < 15) {
                CHECK.same("no corner after " + i, corner(sweeps, 0, (i + 1) / 2, i / 2), 0);
            }
        }
        CHECK.noState("corner 17", () -> corner(sweeps, 0, 8, 8));
        CHECK.noState("corner 17 that would not be taken", () -> corner(sweeps, 0, 60, 60));
        CHECK.noState("corner 17 out of the plane", () -> corner(sweeps, 0, -1, 99));
    }

    private static long corner(EdgeSweeps sweeps, int polygon, long x, long y) {
        return sweeps.corner(polygon, x, y) ? 1 : 0;
    }

    /** Terms: which squares a polygon has. */
    private static void polygonSquares() {
        areaOfPath("three corners", 0, 1, 1, 5, 1, 5, 5);
        areaOfPath("the last one is not in line", 0, 1, 1, 5, 1, 5, 5, 3, 5);
        areaOfPath("the last one is the first one", 0, 1, 1, 5, 1, 5, 5, 1, 5, 1, 1);
        areaOfPath("four corners", 16, 1, 1, 5, 1, 5, 5, 1, 5);
        areaOfPath("the other way round", 16, 1, 5, 5, 5, 5, 1, 1, 1);
        areaOfPath("a corner in the middle of an edge", 16, 1, 1, 3, 1, 5, 1, 5, 5, 1, 5);
        areaOfPath("there and back", 0, 1, 1, 5, 1, 1, 1, 5, 1);
        areaOfPath("twice round", 0, 1, 1, 5, 1, 5, 5, 1, 5, 1, 1, 5, 1, 5, 5, 1, 5);
        areaOfPath("overlapping itself", 24, 0, 0, 4, 0, 4, 4, 2, 4, 2, 2, 6, 2, 6, 0, 8, 0, 8, 4, 0, 4);
        areaOfPath("the whole plane", 4096, 0, 0, 64, 0, 64, 64, 0, 64);
        areaOfPath("the last square", 1, 63, 63, 64, 63, 64, 64, 63, 64);
        EdgeSweeps sweeps = new EdgeSweeps(1);
        Draw.box(sweeps, 0, 1, 1, 5, 5);
        Draw.box(sweeps, 0, 3, 3, 7, 7);
        CHECK.same("two polygons of a layer are joined", sweeps.area2(0, 0), 2 * 28);
    }

    private static void areaOfPath(String what, long due, long... xy) {
        EdgeSweeps sweeps = new EdgeSweeps(1);
        Draw.path(sweeps, 0, xy);
        CHECK.same("squares: " + what, sweeps.area2(0, 0), 2 * due);
    }

    // Promise 4

    private static void opOfSquares() {
        EdgeSweeps sweeps = new EdgeSweeps(2);
        Draw.box(sweeps, 0, 0, 0, 4, 4);
        Draw.box(sweeps, 1, 2, 2, 7, 6);
        long[] due = {32, 4, 12, 28};
        for (int what = 0; what < 4; what++) {
            CHECK.same("op " + what, sweeps.op(what, 0, 1), 2 + what);
            CHECK.same("area of op " + what, sweeps.area2(2 + what, 0), 2 * due[what]);
        }
        CHECK.same("difference the other way", sweeps.op(2, 1, 0), 6);
        CHECK.same("its area", sweeps.area2(6, 0), 2 * 16);
        CHECK.same("either with itself", sweeps.area2(sweeps.op(3, 0, 0), 0), 0);
        CHECK.same("union with itself", sweeps.area2(sweeps.op(0, 0, 0), 0), 32);
        CHECK.same("of made ones", sweeps.area2(sweeps.op(2, 2, 3), 0), 2 * 28);
        Draw.box(sweeps, 0, 10, 10, 20, 20);
        CHECK.same("a made one stays", sweeps.area2(2, 0), 64);
        CHECK.same("a base layer does not", sweeps.area2(0, 0), 232);
    }

    private static void opOfShapes() {
        EdgeSweeps sweeps = new EdgeSweeps(2);
        Draw.box(sweeps, 0, 1, 1, 3, 3);
        Draw.box(sweeps, 0, 10, 1, 14, 3);
        Draw.box(sweeps, 0, 20, 1, 22, 3);
        Draw.box(sweeps, 0, 30, 1, 32, 3);
        Draw.box(sweeps, 0, 40, 1, 42, 3);
        Draw.box(sweeps, 1, 1, 1, 3, 3);
        Draw.box(sweeps, 1, 12, 0, 16, 5);
        Draw.box(sweeps, 1, 22, 3, 24, 5);
        Draw.box(sweeps, 1, 33, 1, 35, 3);
        Draw.box(sweeps, 1, 38, 1, 40, 3);
        int inside = sweeps.op(4, 0, 1);
        CHECK.same("one is inside", sweeps.shapes(inside), 1);
        CHECK.yes("the first one", sweeps.in(inside, 1, 1));
        CHECK.same("all of it", sweeps.area2(inside, 0), 8);
        int touching = sweeps.op(5, 0, 1);
        CHECK.same("four touch: the same, in part, at a corner, along an edge", sweeps.shapes(touching), 4);
        CHECK.same("whole ones", sweeps.area2(touching, 0), 2 * (4 + 8 + 4 + 4));
        CHECK.no("one square between", sweeps.in(touching, 30, 1));
        CHECK.same("all are inside themselves", sweeps.area2(sweeps.op(4, 0, 0), 0), sweeps.area2(0, 0));
        int none = sweeps.op(3, 0, 0);
        CHECK.same("nothing is inside nothing", sweeps.shapes(sweeps.op(4, 0, none)), 0);
        CHECK.same("nothing touches nothing", sweeps.shapes(sweeps.op(5, 0, none)), 0);
        CHECK.same("no shapes are inside", sweeps.shapes(sweeps.op(4, none, 0)), 0);
    }

    private static void opRefusals() {
        EdgeSweeps sweeps = new EdgeSweeps(2);
        int[] none = {-1, 2, LOW, HIGH};
        for (int layer : none) {
            CHECK.noIndex("op of a", () -> sweeps.op(0, layer, 0));
            CHECK.noIndex("op of b", () -> sweeps.op(0, 0, layer));
            CHECK.noIndex("op of a, no operation", () -> sweeps.op(6, layer, 0));
        }
        CHECK.noArgument("operation -1", () -> sweeps.op(-1, 0, 0));
        CHECK.noArgument("operation 6", () -> sweeps.op(6, 0, 0));
        CHECK.noArgument("operation least int", () -> sweeps.op(LOW, 0, 0));
        for (int i = 0; i < 24; i++) {
            CHECK.same("refused ones are not there", sweeps.op(i % 6, 0, i + 1), 2 + i);
        }
        CHECK.noState("25 made ones", () -> sweeps.op(0, 0, 0));
        CHECK.noState("25 made ones, no operation", () -> sweeps.op(6, 0, 0));
        CHECK.noIndex("25 made ones, no layer", () -> sweeps.op(0, 0, 26));
        CHECK.noState("25 made ones by size", () -> sweeps.size(0, 1, false));
        CHECK.same("the last one is there", sweeps.shapes(25), 0);
        CHECK.noIndex("one more is not", () -> sweeps.shapes(26));
    }

    // Promise 5

    private static void sizeSquare() {
        EdgeSweeps sweeps = new EdgeSweeps(1);
        Draw.box(sweeps, 0, 10, 20, 14, 22);
        CHECK.same("number", sweeps.size(0, 3, false), 1);
        CHECK.same("grown by 3", sweeps.area2(1, 0), 2 * 10 * 8);
        CHECK.yes("its corner square", sweeps.in(1, 7, 17));
        CHECK.no("beyond that", sweeps.in(1, 6, 17));
        CHECK.same("back", sweeps.area2(sweeps.op(3, 0, sweeps.size(1, -3, false)), 0), 0);
        CHECK.same("shrunk by 1 to nothing", sweeps.area2(sweeps.size(0, -1, false), 0), 0);
        EdgeSweeps border = new EdgeSweeps(1);
        Draw.box(border, 0, 63, 63, 64, 64);
        CHECK.same("grown by 13 at the border", border.area2(border.size(0, 13, false), 0), 2 * 14 * 14);
        CHECK.same("grown by 63", border.area2(border.size(0, 63, false), 0), 8192);
        CHECK.same("grown by 62", border.area2(border.size(0, 62, false), 0), 2 * 63 * 63);
        int all = border.size(0, 64, false);
        CHECK.same("grown by 64", border.area2(all, 0), 8192);
        CHECK.same("beyond the plane is nothing", border.area2(border.size(all, -1, false), 0), 2 * 62 * 62);
        CHECK.same("31 leaves four squares", border.area2(border.size(all, -31, false), 0), 8);
        CHECK.same("32 leaves none", border.area2(border.size(all, -32, false), 0), 0);
        CHECK.same("64 leaves none", border.area2(border.size(all, -64, false), 0), 0);
    }

    private static void sizeOctagon() {
        EdgeSweeps sweeps = new EdgeSweeps(1);
        Draw.box(sweeps, 0, 30, 30, 31, 31);
        CHECK.same("octagon by 1 is a cross", sweeps.area2(sweeps.size(0, 1, true), 0), 2 * 5);
        CHECK.same("octagon by 2", sweeps.area2(sweeps.size(0, 2, true), 0), 2 * (25 - 4));
        int three = sweeps.size(0, 3, true);
        CHECK.same("octagon by 3, its half is 1", sweeps.area2(three, 0), 2 * (7 * 3 * 2 - 9));
        CHECK.yes("far in x", sweeps.in(three, 33, 31));
        CHECK.yes("far in y", sweeps.in(three, 29, 27));
        CHECK.no("far in both", sweeps.in(three, 32, 32));
        int back = sweeps.size(three, -3, true);
        CHECK.same("shrunk to the one square", sweeps.area2(back, 0), 2);
        CHECK.yes("it is that one", sweeps.in(back, 30, 30));
        EdgeSweeps plane = new EdgeSweeps(1);
        Draw.box(plane, 0, 0, 0, 64, 64);
        int odd = plane.size(0, -3, true);
        CHECK.same("the plane shrunk by 3", plane.area2(odd, 0), 2 * 58 * 58);
        int cross = plane.size(odd, 1, true);
        CHECK.same("no corner squares", plane.area2(cross, 0), 2 * (58 * 58 + 4 * 58));
        CHECK.same("the cross fits again", plane.area2(plane.op(3, plane.size(cross, -1, true), odd), 0), 0);
    }

    private static void sizeRefusals() {
        EdgeSweeps sweeps = new EdgeSweeps(2);
        long[] wrong = {0, 65, -65, 1L << 32, (1L << 32) + 1, Long.MIN_VALUE, Long.MAX_VALUE};
        for (long by : wrong) {
            CHECK.noArgument("size by " + by, () -> sweeps.size(0, by, false));
            CHECK.noArgument("octagon by " + by, () -> sweeps.size(0, by, true));
            CHECK.noIndex("no layer, by " + by, () -> sweeps.size(2, by, false));
        }
        CHECK.noIndex("layer -1", () -> sweeps.size(-1, 1, false));
        CHECK.noIndex("greatest layer", () -> sweeps.size(HIGH, 1, true));
        for (int i = 0; i < 24; i++) {
            CHECK.same("refused ones are not there", sweeps.size(0, i - 64, i % 2 == 0), 2 + i);
        }
        CHECK.noState("25 made ones", () -> sweeps.size(0, 1, false));
        CHECK.noState("25 made ones, by 0", () -> sweeps.size(0, 0, false));
        CHECK.noIndex("25 made ones, no layer", () -> sweeps.size(26, 0, false));
        CHECK.noState("25 made ones by op", () -> sweeps.op(0, 0, 0));
    }

    // Promise 6

    private static void shapes() {
        EdgeSweeps sweeps = new EdgeSweeps(2);
        Draw.box(sweeps, 0, 10, 5, 20, 9);
        CHECK.same("one", sweeps.shapes(0), 1);
        Draw.box(sweeps, 0, 20, 9, 25, 12);
        CHECK.same("at a corner alone they do not hang together", sweeps.shapes(0), 2);
        Draw.box(sweeps, 0, 20, 8, 21, 9);
        CHECK.same("over an edge they do", sweeps.shapes(0), 1);
        Draw.path(sweeps, 1, 0, 0, 1, 0, 1, 5, 2, 5, 2, 0, 3, 0, 3, 5, 4, 5, 4, 0, 5, 0, 5, 9, 0, 9);
        CHECK.same("arms that meet late", sweeps.shapes(1), 1);
        CHECK.same("another layer is apart", sweeps.shapes(sweeps.op(3, 1, 1)), 0);
        noLayer("shapes", sweeps, sweeps::shapes);
    }

    private interface OfLayer {
        long answer(int layer);
    }

    /** Expects two base layers and one made one. */
    private static void noLayer(String what, EdgeSweeps sweeps, OfLayer call) {
        int[] none = {-1, 3, 4, 99999, LOW, HIGH};
        call.answer(2);
        for (int layer : none) {
            CHECK.noIndex(what + " of layer " + layer, () -> call.answer(layer));
        }
    }

    // Promise 7

    private static void at() {
        EdgeSweeps sweeps = new EdgeSweeps(2);
        Draw.path(sweeps, 0, 10, 10, 20, 10, 20, 14, 14, 14, 14, 20, 10, 20);
        Draw.box(sweeps, 0, 63, 5, 64, 6);
        Draw.box(sweeps, 0, 62, 4, 63, 5);
        corners(sweeps, 0, 0, 62, 4, 63, 4, 62, 5, 63, 5);
        corners(sweeps, 0, 1, 63, 5, 64, 5, 63, 6, 64, 6);
        corners(sweeps, 0, 2, 10, 10, 20, 10, 14, 14, 20, 14, 10, 20, 14, 20);
        Draw.box(sweeps, 1, 0, 0, 64, 64);
        corners(sweeps, 1, 0, 0, 0, 64, 0, 0, 64, 64, 64);
        Draw.box(sweeps, 0, 2, 30, 3, 31);
        Draw.box(sweeps, 0, 1, 31, 2, 32);
        Draw.box(sweeps, 0, 0, 30, 1, 32);
        Draw.box(sweeps, 0, 0, 29, 3, 30);
        // A ring with a gap: two squares across from each other are of the same shape.
        corners(sweeps, 0, 3, 0, 29, 3, 29, 1, 30, 2, 30, 1, 31, 2, 31, 3, 31, 0, 32, 2, 32);
        sweeps.op(0, 0, 0);
        noLayer("at", sweeps, layer -> sweeps.at(layer, 0, 0, 0));
        int[] none = {-1, 4, LOW, HIGH};
        for (int wrong : none) {
            CHECK.noIndex("shape " + wrong, () -> sweeps.at(0, wrong, 0, 0));
            CHECK.noIndex("corner " + wrong, () -> sweeps.at(0, 0, wrong, 0));
            CHECK.noIndex("axis " + wrong, () -> sweeps.at(0, 0, 0, wrong));
        }
        CHECK.noIndex("axis 2", () -> sweeps.at(0, 0, 0, 2));
    }

    private static void corners(EdgeSweeps sweeps, int layer, int shape, int... xy) {
        for (int k = 0; k < xy.length / 2; k++) {
            String name = "corner " + k + " of shape " + shape;
            CHECK.same(name + ", x", sweeps.at(layer, shape, k, 0), xy[2 * k]);
            CHECK.same(name + ", y", sweeps.at(layer, shape, k, 1), xy[2 * k + 1]);
        }
        CHECK.noIndex("no more corners", () -> sweeps.at(layer, shape, xy.length / 2, 0));
        CHECK.noIndex("no corner -1", () -> sweeps.at(layer, shape, -1, 0));
    }

    // Promise 8

    private static void in() {
        EdgeSweeps sweeps = new EdgeSweeps(2);
        Draw.box(sweeps, 0, 0, 0, 64, 64);
        Draw.box(sweeps, 1, 3, 4, 5, 7);
        long[] ends = {0, 63};
        for (long x : ends) {
            for (long y : ends) {
                CHECK.yes("corner square", sweeps.in(0, x, y));
            }
        }
        long[] beyond = {-1, 64, 65, 1L << 32, Long.MIN_VALUE, Long.MAX_VALUE};
        for (long far : beyond) {
            CHECK.no("x beyond the plane", sweeps.in(0, far, 0));
            CHECK.no("y beyond the plane", sweeps.in(0, 0, far));
            CHECK.noIndex("beyond the plane of no layer", () -> sweeps.in(2, far, 0) ? 1 : 0);
        }
        CHECK.yes("first square", sweeps.in(1, 3, 4));
        CHECK.yes("last square", sweeps.in(1, 4, 6));
        CHECK.no("left of it", sweeps.in(1, 2, 4));
        CHECK.no("right of it", sweeps.in(1, 5, 4));
        CHECK.no("below it", sweeps.in(1, 3, 3));
        CHECK.no("above it", sweeps.in(1, 3, 7));
        sweeps.op(0, 1, 1);
        CHECK.yes("of a made layer", sweeps.in(2, 3, 4));
        noLayer("in", sweeps, layer -> sweeps.in(layer, 0, 0) ? 1 : 0);
    }

    // Promise 9

    private static void area2() {
        EdgeSweeps sweeps = new EdgeSweeps(2);
        CHECK.same("no squares", sweeps.area2(0, 0), 0);
        CHECK.same("no edges", sweeps.area2(0, 1), 0);
        Draw.box(sweeps, 0, 0, 0, 64, 64);
        CHECK.same("the plane's squares", sweeps.area2(0, 0), 8192);
        CHECK.same("the plane's edges", sweeps.area2(0, 1), 256);
        Draw.box(sweeps, 1, 3, 3, 5, 4);
        Draw.box(sweeps, 1, 5, 4, 6, 5);
        CHECK.same("squares of two shapes", sweeps.area2(1, 0), 6);
        CHECK.same("edges of two shapes", sweeps.area2(1, 1), 6 + 4);
        sweeps.op(2, 0, 1);
        CHECK.same("squares round holes", sweeps.area2(2, 0), 8192 - 6);
        CHECK.same("edges of holes too", sweeps.area2(2, 1), 256 + 10);
        noLayer("area2", sweeps, layer -> sweeps.area2(layer, 0));
        int[] none = {-1, 2, LOW, HIGH};
        for (int limb : none) {
            CHECK.noIndex("limb " + limb, () -> sweeps.area2(0, limb));
        }
    }

    // Promise 10

    private static void touching() {
        EdgeSweeps sweeps = new EdgeSweeps(2);
        Draw.box(sweeps, 0, 50, 0, 52, 2);
        Draw.box(sweeps, 0, 40, 1, 42, 3);
        Draw.box(sweeps, 0, 30, 2, 32, 4);
        Draw.box(sweeps, 0, 20, 3, 22, 5);
        Draw.box(sweeps, 1, 52, 2, 53, 3);
        Draw.box(sweeps, 1, 43, 1, 44, 3);
        Draw.box(sweeps, 1, 31, 3, 40, 4);
        Draw.box(sweeps, 1, 20, 5, 21, 6);
        sweeps.op(3, 0, 0);
        int[] due = {0, 1, 2, 3};
        touchingAll(sweeps, 0, 1, due);
        Draw.box(sweeps, 0, 60, 60, 61, 61);
        Draw.box(sweeps, 1, 60, 62, 61, 63);
        touchingAll(sweeps, 0, 1, due);
        touchingAll(sweeps, 1, 0, 1, 2, 3);
        touchingAll(sweeps, 0, 2);
        touchingAll(sweeps, 2, 0);
        touchingAll(sweeps, 0, 0, 0, 1, 2, 3, 4);
        noLayer("touching of a", sweeps, layer -> sweeps.touching(layer, 0, 0));
        noLayer("touching of b", sweeps, layer -> sweeps.touching(0, layer, 0));
        CHECK.noIndex("k is -1", () -> sweeps.touching(0, 1, -1));
        CHECK.noIndex("k is the least int", () -> sweeps.touching(0, 1, LOW));
        CHECK.same("k is the greatest int", sweeps.touching(0, 1, HIGH), EdgeSweeps.NONE);
    }

    private static void touchingAll(EdgeSweeps sweeps, int a, int b, int... due) {
        for (int k = 0; k < due.length; k++) {
            CHECK.same("touching " + a + " " + b + " " + k, sweeps.touching(a, b, k), due[k]);
        }
        CHECK.same("no more touching " + a + " " + b, sweeps.touching(a, b, due.length), EdgeSweeps.NONE);
    }

    // Promise 11

    private static void nets() {
        EdgeSweeps sweeps = new EdgeSweeps(2);
        CHECK.same("none", sweeps.nets(0), 0);
        Draw.box(sweeps, 0, 0, 0, 2, 2);
        Draw.box(sweeps, 0, 2, 2, 4, 4);
        Draw.box(sweeps, 0, 4, 0, 6, 2);
        CHECK.same("three shapes", sweeps.shapes(0), 3);
        CHECK.same("touching over another one, in one net", sweeps.nets(0), 1);
        Draw.box(sweeps, 0, 5, 3, 6, 4);
        CHECK.same("a square between is another net", sweeps.nets(0), 2);
        sweeps.op(0, 0, 1);
        noLayer("nets", sweeps, sweeps::nets);
    }

    // Promise 12

    private static void netOf() {
        EdgeSweeps sweeps = new EdgeSweeps(2);
        Draw.box(sweeps, 0, 20, 0, 21, 1);
        Draw.box(sweeps, 0, 30, 0, 31, 1);
        Draw.box(sweeps, 0, 10, 1, 11, 2);
        Draw.box(sweeps, 0, 31, 1, 32, 2);
        Draw.box(sweeps, 0, 19, 2, 20, 3);
        Draw.box(sweeps, 0, 11, 2, 19, 3);
        Draw.box(sweeps, 0, 12, 3, 13, 4);
        sweeps.op(0, 0, 1);
        long[] due = {0, 1, 2, 1, 2};
        CHECK.same("shapes", sweeps.shapes(0), due.length);
        for (int shape = 0; shape < due.length; shape++) {
            CHECK.same("net of " + shape, sweeps.netOf(0, shape), due[shape]);
        }
        Draw.box(sweeps, 0, 20, 1, 21, 2);
        long[] joined = {0, 1, 0, 1, 0};
        for (int shape = 0; shape < joined.length; shape++) {
            CHECK.same("net of " + shape + " when joined", sweeps.netOf(0, shape), joined[shape]);
        }
        netsJoinedLate();
        noLayer("netOf", sweeps, layer -> sweeps.netOf(layer, 0));
        int[] none = {-1, 5, LOW, HIGH};
        for (int shape : none) {
            CHECK.noIndex("net of shape " + shape, () -> sweeps.netOf(0, shape));
        }
        CHECK.noIndex("net of a shape of nothing", () -> sweeps.netOf(1, 0));
    }

    /** The second and third shape are joined first, and over the second one with the first one. */
    private static void netsJoinedLate() {
        EdgeSweeps sweeps = new EdgeSweeps(1);
        Draw.box(sweeps, 0, 0, 0, 1, 2);
        Draw.box(sweeps, 0, 4, 0, 5, 1);
        Draw.box(sweeps, 0, 8, 0, 9, 1);
        Draw.box(sweeps, 0, 5, 1, 8, 2);
        Draw.box(sweeps, 0, 1, 2, 5, 3);
        CHECK.same("shapes joined late", sweeps.shapes(0), 5);
        for (int shape = 0; shape < 5; shape++) {
            CHECK.same("net joined late, of " + shape, sweeps.netOf(0, shape), 0);
        }
    }

    // Promise 13

    private static void strips() {
        EdgeSweeps sweeps = new EdgeSweeps(2);
        Draw.box(sweeps, 0, 1, 1, 60, 60);
        CHECK.same("one at first", sweeps.strips(64), 1);
        int[] wrong = {0, -1, 65, LOW, HIGH};
        for (int n : wrong) {
            CHECK.noIndex("strips " + n, () -> sweeps.strips(n));
        }
        CHECK.same("as before", sweeps.strips(7), 64);
        CHECK.same("nothing hangs on them", sweeps.shapes(0), 1);
        CHECK.same("no edge more", sweeps.edge(0, 3, 2), 60);
        CHECK.noIndex("no box more", () -> sweeps.trapezoid(0, 1, 0));
        CHECK.same("from now on", sweeps.strips(1), 7);
        CHECK.same("and back", sweeps.strips(1), 1);
    }

    // Promise 14

    private static void edge() {
        EdgeSweeps sweeps = new EdgeSweeps(2);
        Draw.box(sweeps, 0, 4, 4, 8, 8);
        Draw.box(sweeps, 0, 8, 8, 12, 12);
        edges(sweeps, 0, 4, 4, 8, 4, 1, 4, 8, 8, 8, -1, 8, 8, 12, 8, 1, 8, 12, 12, 12, -1,
                4, 4, 4, 8, 1, 8, 4, 8, 8, -1, 8, 8, 8, 12, 1, 12, 8, 12, 12, -1);
        Draw.box(sweeps, 0, 12, 4, 16, 8);
        Draw.box(sweeps, 0, 8, 4, 12, 8);
        edges(sweeps, 0, 4, 4, 16, 4, 1, 4, 8, 8, 8, -1, 12, 8, 16, 8, -1, 8, 12, 12, 12, -1,
                4, 4, 4, 8, 1, 8, 8, 8, 12, 1, 12, 8, 12, 12, -1, 16, 4, 16, 8, -1);
        Draw.box(sweeps, 1, 0, 0, 64, 64);
        edges(sweeps, 1, 0, 0, 64, 0, 1, 0, 64, 64, 64, -1, 0, 0, 0, 64, 1, 64, 0, 64, 64, -1);
        sweeps.op(2, 1, 0);
        CHECK.same("the side of a hole", sweeps.edge(2, 1, 4), -1);
        noLayer("edge", sweeps, layer -> sweeps.edge(layer, 0, 0));
        int[] none = {-1, 5, LOW, HIGH};
        for (int what : none) {
            CHECK.noIndex("edge, what " + what, () -> sweeps.edge(1, 0, what));
            CHECK.noIndex("standing edge, what " + what, () -> sweeps.edge(1, 2, what));
            CHECK.noIndex("edge " + what, () -> sweeps.edge(1, what, 0));
        }
        EdgeSweeps empty = new EdgeSweeps(1);
        CHECK.noIndex("edge of nothing", () -> empty.edge(0, 0, 0));
    }

    private static void edges(EdgeSweeps sweeps, int layer, int... due) {
        for (int i = 0; i < due.length; i++) {
            CHECK.same("edge " + i / 5 + " what " + i % 5, sweeps.edge(layer, i / 5, i % 5), due[i]);
        }
        CHECK.noIndex("no more edges", () -> sweeps.edge(layer, due.length / 5, 0));
    }

    // Promise 15

    private static void trapezoid() {
        EdgeSweeps sweeps = new EdgeSweeps(2);
        Draw.box(sweeps, 0, 4, 4, 8, 10);
        Draw.box(sweeps, 0, 20, 6, 64, 8);
        Draw.box(sweeps, 0, 30, 40, 31, 64);
        boxes(sweeps, 0, 4, 4, 8, 6, 4, 6, 8, 8, 20, 6, 64, 8, 4, 8, 8, 10, 30, 40, 31, 64);
        Draw.box(sweeps, 1, 0, 0, 64, 64);
        boxes(sweeps, 1, 0, 0, 64, 64);
        sweeps.op(2, 1, 0);
        CHECK.same("beside a hole", sweeps.trapezoid(2, 2, 0), 8);
        noLayer("trapezoid", sweeps, layer -> sweeps.trapezoid(layer, 0, 0));
        int[] none = {-1, 4, 5, LOW, HIGH};
        for (int what : none) {
            CHECK.noIndex("box, what " + what, () -> sweeps.trapezoid(1, 0, what));
            CHECK.noIndex("box " + what, () -> sweeps.trapezoid(1, what, 0));
        }
        EdgeSweeps empty = new EdgeSweeps(1);
        CHECK.noIndex("box of nothing", () -> empty.trapezoid(0, 0, 0));
    }

    private static void boxes(EdgeSweeps sweeps, int layer, int... due) {
        for (int i = 0; i < due.length; i++) {
            CHECK.same("box " + i / 4 + " what " + i % 4, sweeps.trapezoid(layer, i / 4, i % 4), due[i]);
        }
        CHECK.noIndex("no more boxes", () -> sweeps.trapezoid(layer, due.length / 4, 0));
    }

    // Promise 16

    private static void clear() {
        EdgeSweeps sweeps = new EdgeSweeps(2);
        sweeps.clear();
        for (int round = 0; round < 2; round++) {
            for (int i = 0; i < 16; i++) {
                CHECK.same("polygons begin at 0", sweeps.polygon(i & 1), i);
            }
            sweeps.corner(0, 0, 0);
            sweeps.corner(0, 8, 0);
            sweeps.corner(0, 8, 8);
            CHECK.same("corners of before are gone", sweeps.area2(0, 0), 0);
            sweeps.corner(0, 0, 8);
            CHECK.same("drawn", sweeps.area2(0, 0), 128);
            for (int i = 0; i < 24; i++) {
                CHECK.same("made layers begin behind the base ones", sweeps.op(i % 4, 0, 0), 2 + i);
            }
            CHECK.same("strips stay", sweeps.strips(9 + round), round == 0 ? 1 : 9);
            sweeps.clear();
            CHECK.same("no squares", sweeps.area2(0, 0), 0);
            CHECK.noIndex("no polygon", () -> corner(sweeps, 0, 0, 0));
            CHECK.noIndex("no made layer", () -> sweeps.shapes(2));
        }
        CHECK.same("strips stay at the end", sweeps.strips(1), 10);
        CHECK.same("the second base layer is there", sweeps.shapes(1), 0);
    }

    /** As many shapes, edges and boxes as there can be. */
    private static void fullestArea() {
        EdgeSweeps sweeps = Draw.checkerboard();
        CHECK.same("columns", sweeps.area2(0, 0), 4096);
        CHECK.same("rows", sweeps.area2(1, 0), 4096);
        CHECK.same("squares apart", sweeps.shapes(2), 2048);
        CHECK.same("one net", sweeps.nets(2), 1);
        CHECK.same("of the last one", sweeps.netOf(2, 2047), 0);
        CHECK.same("corner of the last one", sweeps.at(2, 2047, 3, 0), 63);
        CHECK.noIndex("one more", () -> sweeps.at(2, 2048, 0, 0));
        CHECK.same("length", sweeps.area2(2, 1), 8192);
        CHECK.same("last lying edge", sweeps.edge(2, 4095, 1), 64);
        CHECK.same("first standing edge", sweeps.edge(2, 4096, 0), 0);
        CHECK.same("last edge", sweeps.edge(2, 8191, 0), 64);
        CHECK.noIndex("one edge more", () -> sweeps.edge(2, 8192, 0));
        CHECK.same("last box", sweeps.trapezoid(2, 2047, 2), 63);
        CHECK.noIndex("one box more", () -> sweeps.trapezoid(2, 2048, 0));
        CHECK.same("all touch the columns", sweeps.touching(2, 0, 2047), 2047);
        CHECK.same("half are inside them", sweeps.shapes(sweeps.op(4, 2, 0)), 1024);
        CHECK.same("half are inside the rows", sweeps.shapes(sweeps.op(4, 2, 1)), 1024);
        CHECK.same("grown by 1 it is all", sweeps.area2(sweeps.size(2, 1, true), 0), 8192);
    }
}
