/** The sentences of the sixteen promises, each at its boundaries. */
public final class PromiseBoundaryTests {
    private static final Check CHECK = new Check("PromiseBoundaryTests");
    private static final int LOW = Integer.MIN_VALUE;
    private static final int HIGH = Integer.MAX_VALUE;

    public static void main(String[] args) throws Exception {
        Boundaries.run(PromiseBoundaryTests.class, CHECK, args);
    }

    private interface OfLayer {
        long answer(int layer);
    }

    private interface Make {
        OfLayer on(EdgeSweeps sweeps);
    }

    /** The least and the last layer answer, those beyond do not: of base layers and of made ones. */
    private static void firstAndLastLayer(Make make) {
        int[] counts = {1, 2, 65536};
        for (int base : counts) {
            EdgeSweeps sweeps = Draw.onEnds(base);
            OfLayer call = make.on(sweeps);
            call.answer(0);
            call.answer(base - 1);
            beyond(call, base);
            for (int made = 1; made <= 24; made++) {
                sweeps.op(0, 0, base - 1);
            }
            call.answer(0);
            call.answer(base);
            call.answer(base + 23);
            beyond(call, base + 24);
            sweeps.clear();
            beyond(call, base);
        }
    }

    private static void beyond(OfLayer call, int layers) {
        int[] none = {-1, layers, layers + 1, LOW, HIGH};
        for (int layer : none) {
            CHECK.noIndex("layer " + layer + " of " + layers, () -> call.answer(layer));
        }
    }

    // Promise 1

    @Sentence(of = "Promise 1", words = "So many base layers")
    static void soManyLayers() {
        int[] counts = {1, 2, 3, 64, 65535, 65536};
        for (int layers : counts) {
            layersOf(layers, layers);
        }
    }

    @Sentence(of = "Promise 1", words = "(1, if they are below that")
    static void fewerThanOneLayer() {
        int[] counts = {0, -1, -65536, LOW};
        for (int layers : counts) {
            layersOf(layers, 1);
        }
    }

    @Sentence(of = "Promise 1", words = "65536, if above)")
    static void moreThan65536Layers() {
        int[] counts = {65537, 65538, 1 << 20, HIGH};
        for (int layers : counts) {
            layersOf(layers, 65536);
        }
    }

    private static void layersOf(int asked, int due) {
        EdgeSweeps sweeps = new EdgeSweeps(asked);
        CHECK.same("polygon on the last of " + asked, sweeps.polygon(due - 1), 0);
        CHECK.noIndex("polygon behind the last of " + asked, () -> sweeps.polygon(due));
        CHECK.same("shapes of the last of " + asked, sweeps.shapes(due - 1), 0);
        CHECK.noIndex("shapes behind the last of " + asked, () -> sweeps.shapes(due));
        CHECK.noIndex("shapes before the first of " + asked, () -> sweeps.shapes(-1));
        CHECK.same("the first made one of " + asked, sweeps.size(due - 1, 1, false), due);
    }

    @Sentence(of = "Promise 1", words = "without polygons.")
    static void newWithoutPolygons() {
        EdgeSweeps sweeps = new EdgeSweeps(2);
        CHECK.noIndex("no corner of a first polygon", () -> corner(sweeps, 0, 0, 0));
        for (int layer = 0; layer < 2; layer++) {
            CHECK.same("no squares", sweeps.area2(layer, 0), 0);
            CHECK.same("no edges", sweeps.area2(layer, 1), 0);
            CHECK.same("no shapes", sweeps.shapes(layer), 0);
            CHECK.same("no nets", sweeps.nets(layer), 0);
        }
        CHECK.noIndex("no made layer", () -> sweeps.shapes(2));
        CHECK.same("the first polygon", sweeps.polygon(1), 0);
    }

    // Promise 2

    @Sentence(of = "Promise 2", words = "A new polygon on a base layer: its number.")
    static void firstAndLastPolygon() {
        EdgeSweeps sweeps = new EdgeSweeps(65536);
        for (int i = 0; i < 16; i++) {
            CHECK.same("number", sweeps.polygon(i % 2 == 0 ? 65535 : 0), i);
            CHECK.same("it has no corner yet", corner(sweeps, i, 64, 64), 1);
        }
    }

    @Sentence(of = "Promise 2", words = "IndexOutOfBoundsException: it is no base layer")
    static void polygonOnNoBaseLayer() {
        EdgeSweeps sweeps = new EdgeSweeps(2);
        int[] none = {-1, 2, 3, LOW, HIGH};
        for (int layer : none) {
            CHECK.noIndex("layer " + layer, () -> sweeps.polygon(layer));
        }
        sweeps.op(0, 0, 1);
        CHECK.noIndex("a made layer", () -> sweeps.polygon(2));
        CHECK.same("refused ones have no number", sweeps.polygon(1), 0);
        for (int i = 1; i < 16; i++) {
            sweeps.polygon(0);
        }
        CHECK.noIndex("a made layer, when there are 16", () -> sweeps.polygon(2));
        CHECK.noIndex("no layer, when there are 16", () -> sweeps.polygon(-1));
    }

    @Sentence(of = "Promise 2", words = "IllegalStateException: there are 16.")
    static void polygonSeventeen() {
        EdgeSweeps sweeps = new EdgeSweeps(2);
        for (int i = 0; i < 15; i++) {
            sweeps.polygon(0);
        }
        CHECK.same("the sixteenth", sweeps.polygon(1), 15);
        CHECK.noState("the seventeenth", () -> sweeps.polygon(0));
        CHECK.noState("on a layer with one", () -> sweeps.polygon(1));
        CHECK.noIndex("it is not there", () -> corner(sweeps, 16, 0, 0));
        sweeps.clear();
        CHECK.same("after a clear", sweeps.polygon(0), 0);
    }

    // Promise 3

    @Sentence(of = "Promise 3", words = "One more corner: whether it differs from the one before in just one")
    static void cornerThatDiffers() {
        long[][] points = {{10, 10}, {0, 10}, {64, 10}, {9, 10}, {11, 10}, {10, 0}, {10, 64}, {10, 9}, {10, 11},
            {9, 9}, {11, 11}, {9, 11}, {11, 9}, {0, 0}, {64, 64}, {0, 64}, {64, 0}};
        for (int i = 0; i < points.length; i++) {
            EdgeSweeps sweeps = new EdgeSweeps(1);
            Draw.path(sweeps, 0, 10, 10);
            long x = points[i][0];
            long y = points[i][1];
            CHECK.same("corner " + x + " " + y, corner(sweeps, 0, x, y), i > 0 && i < 9 ? 1 : 0);
        }
    }

    @Sentence(of = "Promise 3", words = "(else it is not there")
    static void cornerThatIsNotThere() {
        EdgeSweeps sweeps = new EdgeSweeps(1);
        sweeps.polygon(0);
        long[] box = {0, 0, 64, 0, 64, 64, 0, 64};
        for (int i = 0; i < 8; i += 2) {
            CHECK.same("taken", corner(sweeps, 0, box[i], box[i + 1]), 1);
            CHECK.same("differs in none", corner(sweeps, 0, box[i], box[i + 1]), 0);
            CHECK.same("differs in both", corner(sweeps, 0, 30, 31), 0);
        }
        CHECK.same("four corners", sweeps.area2(0, 0), 8192);
        for (int i = 0; i < 40; i++) {
            corner(sweeps, 0, 30, 31);
        }
        for (int i = 0; i < 12; i++) {
            CHECK.same("they do not count to 16", corner(sweeps, 0, 0, 63 - i), 1);
        }
        CHECK.noState("but these do", () -> corner(sweeps, 0, 0, 1));
    }

    @Sentence(of = "Promise 3", words = "the first one always is).")
    static void firstCorner() {
        EdgeSweeps sweeps = new EdgeSweeps(1);
        long[] points = {0, 0, 64, 64, 0, 64, 64, 0, 0, 0};
        for (int i = 0; i < points.length; i += 2) {
            int polygon = sweeps.polygon(0);
            CHECK.same("first corner", corner(sweeps, polygon, points[i], points[i + 1]), 1);
            CHECK.same("the same is no second one", corner(sweeps, polygon, points[i], points[i + 1]), 0);
        }
        sweeps.clear();
        sweeps.polygon(0);
        CHECK.same("first corner after a clear, elsewhere", corner(sweeps, 0, 30, 31), 1);
    }

    @Sentence(of = "Promise 3", words = "IndexOutOfBoundsException;")
    static void cornerOfNoPolygon() {
        EdgeSweeps sweeps = new EdgeSweeps(1);
        CHECK.noIndex("polygon 0 of none", () -> corner(sweeps, 0, 0, 0));
        for (int count = 1; count <= 16; count++) {
            sweeps.polygon(0);
            int[] none = {-1, count, LOW, HIGH};
            for (int polygon : none) {
                CHECK.noIndex("polygon " + polygon + " of " + count, () -> corner(sweeps, polygon, 0, 0));
            }
            CHECK.noIndex("and no point", () -> corner(sweeps, -1, -1, 65));
            CHECK.same("the last one is there", corner(sweeps, count - 1, 0, 0), 1);
        }
        CHECK.same("the first one is there", corner(sweeps, 0, 0, 1), 1);
    }

    @Sentence(of = "Promise 3", words = "IllegalStateException: it has 16")
    static void cornerSeventeen() {
        EdgeSweeps sweeps = new EdgeSweeps(1);
        sweeps.polygon(0);
        sweeps.polygon(0);
        for (int i = 0; i < 16; i++) {
            CHECK.same("corner " + i, corner(sweeps, 0, i, 0), 1);
        }
        CHECK.noState("one that would be taken", () -> corner(sweeps, 0, 16, 0));
        CHECK.noState("one that differs in none", () -> corner(sweeps, 0, 15, 0));
        CHECK.noState("one that differs in both", () -> corner(sweeps, 0, 16, 1));
        CHECK.noState("one beyond the plane", () -> corner(sweeps, 0, 65, 0));
        CHECK.noState("one far beyond the plane", () -> corner(sweeps, 0, Long.MIN_VALUE, Long.MAX_VALUE));
        CHECK.same("another polygon has none", corner(sweeps, 1, 0, 0), 1);
    }

    @Sentence(of = "Promise 3", words = "IllegalArgumentException: x or y is not 0 .. 64.")
    static void cornerBeyondThePlane() {
        EdgeSweeps sweeps = new EdgeSweeps(1);
        Draw.path(sweeps, 0, 0, 0);
        long[] wrong = {-1, 65, -64, 128, LOW, HIGH, 1L << 32, (1L << 32) | 64, Long.MIN_VALUE, Long.MAX_VALUE};
        for (long far : wrong) {
            CHECK.noArgument("x " + far, () -> corner(sweeps, 0, far, 0));
            CHECK.noArgument("y " + far, () -> corner(sweeps, 0, 0, far));
            CHECK.noArgument("x " + far + ", where y differs too", () -> corner(sweeps, 0, far, 64));
            CHECK.noArgument("y " + far + ", where x differs too", () -> corner(sweeps, 0, 64, far));
        }
        CHECK.same("the greatest x", corner(sweeps, 0, 64, 0), 1);
        CHECK.same("the greatest y", corner(sweeps, 0, 64, 64), 1);
        CHECK.same("the least x", corner(sweeps, 0, 0, 64), 1);
        CHECK.same("four corners", sweeps.area2(0, 0), 8192);
    }

    // Promise 4

    @Sentence(of = "Promise 4", words = "An operation on two layers")
    static void leastAndGreatestOperation() {
        EdgeSweeps sweeps = new EdgeSweeps(2);
        Draw.box(sweeps, 0, 0, 0, 64, 64);
        Draw.box(sweeps, 1, 0, 0, 64, 63);
        long[] due = {8192, 8064, 128, 128, 0, 8192};
        for (int what = 0; what < 6; what++) {
            int layer = sweeps.op(what, 0, 1);
            CHECK.same("operation " + what, sweeps.area2(layer, 0), due[what]);
        }
    }

    @Sentence(of = "Promise 4", words = "(they may be the same)")
    static void operationOnOneLayer() {
        EdgeSweeps sweeps = Draw.pictured(62, 62, "##", "#.");
        long[] due = {6, 6, 0, 0, 6, 6};
        for (int what = 0; what < 6; what++) {
            int layer = sweeps.op(what, 0, 0);
            CHECK.same("operation " + what, sweeps.area2(layer, 0), due[what]);
        }
        int made = sweeps.op(0, 0, 0);
        for (int what = 0; what < 6; what++) {
            int layer = sweeps.op(what, made, made);
            CHECK.same("operation " + what + " on a made one", sweeps.area2(layer, 0), due[what]);
        }
        CHECK.same("which stays", sweeps.area2(made, 0), 6);
    }

    @Sentence(of = "Promise 4", words = "the number of the new layer.")
    static void numberOfAnOperation() {
        int[] counts = {0, 1, 2, 65536, 65537};
        for (int asked : counts) {
            int base = Math.min(Math.max(asked, 1), 65536);
            EdgeSweeps sweeps = new EdgeSweeps(asked);
            for (int made = 0; made < 24; made++) {
                int number = sweeps.op(made % 6, base - 1, made > 0 ? base + made - 1 : 0);
                CHECK.same("number", number, base + made);
                CHECK.same("it is there", sweeps.shapes(number), 0);
            }
        }
    }

    @Sentence(of = "Promise 4", words = "IndexOutOfBoundsException;")
    static void operationOnNoLayer() {
        int[] operations = {0, 5, -1, 6};
        for (int what : operations) {
            for (int made = 0; made <= 24; made += 12) {
                EdgeSweeps sweeps = new EdgeSweeps(2);
                int layers = 2 + made;
                for (int i = 0; i < made; i++) {
                    sweeps.op(0, 0, 1);
                }
                beyond(layer -> sweeps.op(what, layer, 0), layers);
                beyond(layer -> sweeps.op(what, 0, layer), layers);
                beyond(layer -> sweeps.op(what, layer, layer), layers);
                CHECK.noIndex("refused ones are not there", () -> sweeps.shapes(layers));
            }
        }
    }

    @Sentence(of = "Promise 4", words = "IllegalStateException: there are 24 made ones")
    static void operationTwentyFive() {
        EdgeSweeps sweeps = new EdgeSweeps(1);
        for (int i = 0; i < 23; i++) {
            sweeps.size(0, 1, false);
        }
        CHECK.same("the last one", sweeps.op(5, 0, 0), 24);
        for (int what = -1; what <= 6; what++) {
            int asked = what;
            CHECK.noState("one more, operation " + what, () -> sweeps.op(asked, 0, 24));
        }
        sweeps.clear();
        CHECK.same("after a clear", sweeps.op(0, 0, 0), 1);
    }

    @Sentence(of = "Promise 4", words = "IllegalArgumentException: there is no such operation.")
    static void noSuchOperation() {
        EdgeSweeps sweeps = new EdgeSweeps(1);
        int[] none = {-1, 6, 7, LOW, HIGH};
        for (int what : none) {
            CHECK.noArgument("operation " + what, () -> sweeps.op(what, 0, 0));
        }
        for (int i = 0; i < 23; i++) {
            sweeps.op(0, 0, 0);
        }
        CHECK.noArgument("when there are 23", () -> sweeps.op(6, 0, 23));
        CHECK.same("refused ones have no number", sweeps.op(0, 0, 0), 24);
    }

    // Promise 5

    @Sentence(of = "Promise 5", words = "A layer sized: the number of the new layer.")
    static void numberOfASizedLayer() {
        int[] counts = {0, 1, 2, 65536, 65537};
        for (int asked : counts) {
            int base = Math.min(Math.max(asked, 1), 65536);
            EdgeSweeps sweeps = new EdgeSweeps(asked);
            Draw.box(sweeps, base - 1, 10, 10, 11, 11);
            for (int made = 0; made < 24; made++) {
                int number = sweeps.size(base - 1, made < 12 ? made + 1 : made - 24, made % 2 == 0);
                CHECK.same("number", number, base + made);
                CHECK.same("it is there", sweeps.shapes(number), made < 12 ? 1 : 0);
            }
            CHECK.same("its base layer stays", sweeps.area2(base - 1, 0), 2);
        }
    }

    @Sentence(of = "Promise 5", words = "IndexOutOfBoundsException;")
    static void sizeOfNoLayer() {
        long[] numbers = {1, -64, 0, 65, Long.MIN_VALUE};
        for (long by : numbers) {
            for (int made = 0; made <= 24; made += 12) {
                EdgeSweeps sweeps = new EdgeSweeps(2);
                int layers = 2 + made;
                for (int i = 0; i < made; i++) {
                    sweeps.size(0, 1, true);
                }
                beyond(layer -> sweeps.size(layer, by, false), layers);
                beyond(layer -> sweeps.size(layer, by, true), layers);
                CHECK.noIndex("refused ones are not there", () -> sweeps.shapes(layers));
            }
        }
    }

    @Sentence(of = "Promise 5", words = "IllegalStateException: there are 24 made ones")
    static void sizeTwentyFive() {
        EdgeSweeps sweeps = new EdgeSweeps(1);
        for (int i = 0; i < 23; i++) {
            sweeps.op(0, 0, 0);
        }
        CHECK.same("the last one", sweeps.size(0, 1, true), 24);
        long[] numbers = {1, -1, 64, -64, 0, 65, -65, Long.MIN_VALUE};
        for (long by : numbers) {
            CHECK.noState("one more by " + by, () -> sweeps.size(0, by, false));
            CHECK.noState("one more octagon by " + by, () -> sweeps.size(24, by, true));
        }
        sweeps.clear();
        CHECK.same("after a clear", sweeps.size(0, 1, false), 1);
    }

    @Sentence(of = "Promise 5", words = "IllegalArgumentException: by is 0, or beyond 64 either way.")
    static void sizeByNothingOrTooMuch() {
        EdgeSweeps sweeps = Draw.plane();
        long[] wrong = {0, 65, -65, 66, -66, HIGH, LOW, 1L << 32, (1L << 32) + 1, (1L << 32) - 1, -(1L << 32) - 1,
            Long.MIN_VALUE, Long.MIN_VALUE + 1, Long.MAX_VALUE};
        for (long by : wrong) {
            CHECK.noArgument("by " + by, () -> sweeps.size(0, by, false));
            CHECK.noArgument("octagon by " + by, () -> sweeps.size(0, by, true));
        }
        long[] right = {1, 64, -1, -64};
        long[] due = {8192, 8192, 2 * 62 * 62, 0};
        for (int i = 0; i < 4; i++) {
            CHECK.same("by " + right[i], sweeps.size(0, right[i], false), 1 + 2 * i);
            CHECK.same("squares", sweeps.area2(1 + 2 * i, 0), due[i]);
            CHECK.same("octagon by " + right[i], sweeps.size(0, right[i], true), 2 + 2 * i);
            CHECK.same("squares of the octagon", sweeps.area2(2 + 2 * i, 0), due[i]);
        }
    }

    // Promise 6

    @Sentence(of = "Promise 6", words = "How many shapes a layer has.")
    static void noShapesOneOrAsManyAsCanBe() {
        CHECK.same("of an empty layer", new EdgeSweeps(1).shapes(0), 0);
        CHECK.same("of the plane", Draw.plane().shapes(0), 1);
        CHECK.same("of one square", Draw.pictured(63, 63, "#").shapes(0), 1);
        EdgeSweeps board = Draw.checkerboard();
        CHECK.same("of every second square", board.shapes(2), 2048);
        CHECK.same("of columns", board.shapes(0), 32);
        CHECK.same("of rows", board.shapes(1), 32);
        CHECK.same("of the other squares", board.shapes(board.op(2, board.size(2, 1, false), 2)), 2048);
    }

    @Sentence(of = "Promise 6", words = "IndexOutOfBoundsException.")
    static void shapesOfNoLayer() {
        firstAndLastLayer(sweeps -> sweeps::shapes);
    }

    // Promise 7

    @Sentence(of = "Promise 7", words = "X (axis 0) or Y (1) of corner k of a shape, by y, then by x.")
    static void firstAndLastCornerOfAShape() {
        EdgeSweeps board = Draw.checkerboard();
        int last = 2047;
        CHECK.text("first shape of the most", Seen.corners(board, 2, 0), "1,0 2,0 1,1 2,1");
        CHECK.text("last shape of the most", Seen.corners(board, 2, last), "62,63 63,63 62,64 63,64");
        EdgeSweeps comb = new EdgeSweeps(2);
        Draw.columns(comb, 0, 0);
        Draw.box(comb, 0, 0, 0, 64, 1);
        CHECK.same("one shape", comb.shapes(0), 1);
        CHECK.same("first corner, x", comb.at(0, 0, 0, 0), 0);
        CHECK.same("first corner, y", comb.at(0, 0, 0, 1), 0);
        CHECK.same("corner at the rim, x", comb.at(0, 0, 1, 0), 64);
        CHECK.same("corner of the last gap, x", comb.at(0, 0, 64, 0), 63);
        CHECK.same("corner at the end of that row, x", comb.at(0, 0, 65, 0), 64);
        CHECK.same("last corner, x", comb.at(0, 0, 129, 0), 63);
        CHECK.same("last corner, y", comb.at(0, 0, 129, 1), 64);
        CHECK.noIndex("no corner more", () -> comb.at(0, 0, 130, 0));
    }

    @Sentence(of = "Promise 7", words = "IndexOutOfBoundsException: also when there is no such axis.")
    static void noSuchCornerOrAxis() {
        EdgeSweeps sweeps = Draw.pictured(0, 0, "#.#");
        int[] none = {-1, 2, LOW, HIGH};
        for (int wrong : none) {
            CHECK.noIndex("axis " + wrong, () -> sweeps.at(0, 0, 0, wrong));
            CHECK.noIndex("axis " + wrong + " of the last corner", () -> sweeps.at(0, 1, 3, wrong));
            CHECK.noIndex("shape " + wrong, () -> sweeps.at(0, wrong, 0, 0));
            CHECK.noIndex("corner " + (wrong == 2 ? 4 : wrong), () -> sweeps.at(0, 0, wrong == 2 ? 4 : wrong, 1));
        }
        CHECK.same("axis 0", sweeps.at(0, 1, 3, 0), 3);
        CHECK.same("axis 1", sweeps.at(0, 1, 3, 1), 1);
        EdgeSweeps empty = new EdgeSweeps(1);
        CHECK.noIndex("shape 0 of none", () -> empty.at(0, 0, 0, 0));
        CHECK.noIndex("shape -1 of none", () -> empty.at(0, -1, 0, 0));
        firstAndLastLayer(s -> layer -> s.at(layer, 0, 0, 0));
    }

    // Promise 8

    @Sentence(of = "Promise 8", words = "Whether a square is in a layer's area")
    static void firstAndLastSquare() {
        EdgeSweeps sweeps = new EdgeSweeps(2);
        Draw.box(sweeps, 0, 0, 0, 64, 64);
        long[] some = {0, 1, 31, 32, 62, 63};
        for (long x : some) {
            for (long y : some) {
                CHECK.yes("in all", sweeps.in(0, x, y));
                CHECK.no("in none", sweeps.in(1, x, y));
            }
        }
        EdgeSweeps one = Draw.pictured(63, 0, "#");
        CHECK.text("the last one of the first row", Seen.squares(one, 0, 61, 0, 4, 2), "..../..#.");
        EdgeSweeps box = new EdgeSweeps(1);
        Draw.box(box, 0, 31, 31, 33, 33);
        CHECK.text("round the middle", Seen.squares(box, 0, 30, 30, 4, 4), "..../.##./.##./....");
    }

    @Sentence(of = "Promise 8", words = "(none is beyond the plane).")
    static void squaresBeyondThePlane() {
        EdgeSweeps sweeps = Draw.plane();
        sweeps.size(0, 64, false);
        long[] beyond = {-1, 64, 65, -64, 128, LOW, HIGH, 1L << 32, (1L << 32) + 5, Long.MIN_VALUE, Long.MAX_VALUE};
        for (long far : beyond) {
            for (int layer = 0; layer < 2; layer++) {
                CHECK.no("x " + far, sweeps.in(layer, far, 0));
                CHECK.no("y " + far, sweeps.in(layer, 63, far));
                CHECK.no("both " + far, sweeps.in(layer, far, far));
            }
        }
    }

    @Sentence(of = "Promise 8", words = "IndexOutOfBoundsException.")
    static void squareOfNoLayer() {
        firstAndLastLayer(sweeps -> layer -> sweeps.in(layer, 0, 0) ? 1 : 0);
        firstAndLastLayer(sweeps -> layer -> sweeps.in(layer, 64, -1) ? 1 : 0);
    }

    // Promise 9

    @Sentence(of = "Promise 9", words = "Twice a layer's squares (limb 0)")
    static void noSquaresOneOrAll() {
        CHECK.same("none", new EdgeSweeps(1).area2(0, 0), 0);
        CHECK.same("one", Draw.pictured(0, 63, "#").area2(0, 0), 2);
        CHECK.same("all", Draw.plane().area2(0, 0), 8192);
        EdgeSweeps sweeps = Draw.plane();
        CHECK.same("all but the rim", sweeps.area2(sweeps.size(0, -1, true), 0), 2 * 62 * 62);
    }

    @Sentence(of = "Promise 9", words = "or how long all its edges are (1).")
    static void noLengthOrTheGreatest() {
        CHECK.same("of none", new EdgeSweeps(1).area2(0, 1), 0);
        CHECK.same("of one", Draw.pictured(63, 0, "#").area2(0, 1), 4);
        CHECK.same("of all: the rim", Draw.plane().area2(0, 1), 256);
        CHECK.same("of two at a corner", Draw.pictured(62, 62, ".#", "#.").area2(0, 1), 8);
        CHECK.same("of two side by side", Draw.pictured(62, 62, "##").area2(0, 1), 6);
        CHECK.same("round a hole too", Draw.pictured(0, 0, "###", "#.#", "###").area2(0, 1), 16);
        CHECK.same("of every second square", Draw.checkerboard().area2(2, 1), 8192);
    }

    @Sentence(of = "Promise 9", words = "IndexOutOfBoundsException: also when there is no such limb.")
    static void noSuchLimb() {
        EdgeSweeps sweeps = Draw.plane();
        int[] none = {-1, 2, LOW, HIGH};
        for (int limb : none) {
            CHECK.noIndex("limb " + limb, () -> sweeps.area2(0, limb));
            CHECK.noIndex("limb " + limb + " of no layer", () -> sweeps.area2(1, limb));
        }
        CHECK.same("limb 0", sweeps.area2(0, 0), 8192);
        CHECK.same("limb 1", sweeps.area2(0, 1), 256);
        firstAndLastLayer(s -> layer -> s.area2(layer, 0));
        firstAndLastLayer(s -> layer -> s.area2(layer, 1));
    }

    // Promise 10

    @Sentence(of = "Promise 10", words = "The k-th (from 0) shape of the first layer that touches the second one's area")
    static void firstAndLastThatTouches() {
        EdgeSweeps sweeps = new EdgeSweeps(2);
        Draw.picture(sweeps, 0, 0, 0, "#.#.#.#");
        Draw.picture(sweeps, 1, 2, 1, "#....");
        Draw.picture(sweeps, 1, 6, 0, "#");
        CHECK.same("the first one", sweeps.touching(0, 1, 0), 1);
        CHECK.same("the last one", sweeps.touching(0, 1, 1), 3);
        CHECK.text("no others", Seen.touching(sweeps, 0, 1), "1 3");
        CHECK.text("the other way", Seen.touching(sweeps, 1, 0), "0 1");
        CHECK.text("itself", Seen.touching(sweeps, 0, 0), "0 1 2 3");
        EdgeSweeps board = Draw.checkerboard();
        CHECK.same("the first of the most", board.touching(2, 2, 0), 0);
        CHECK.same("the last of the most", board.touching(2, 2, 2047), 2047);
        CHECK.same("no more", board.touching(2, 2, 2048), EdgeSweeps.NONE);
    }

    @Sentence(of = "Promise 10", words = "NONE if there are not so many.")
    static void notSoMany() {
        EdgeSweeps sweeps = new EdgeSweeps(3);
        Draw.box(sweeps, 0, 0, 0, 2, 2);
        Draw.box(sweeps, 1, 3, 0, 4, 2);
        CHECK.same("none touches", sweeps.touching(0, 1, 0), -1);
        CHECK.same("the second one is empty", sweeps.touching(0, 2, 0), -1);
        CHECK.same("the first one is empty", sweeps.touching(2, 0, 0), -1);
        CHECK.same("both are empty", sweeps.touching(2, 2, 0), -1);
        CHECK.same("one touches", sweeps.touching(0, 0, 0), 0);
        CHECK.same("not two", sweeps.touching(0, 0, 1), -1);
        CHECK.same("not the greatest number", sweeps.touching(0, 0, HIGH), -1);
        CHECK.same("NONE", EdgeSweeps.NONE, -1);
    }

    @Sentence(of = "Promise 10", words = "IndexOutOfBoundsException: of a layer, or k is below 0.")
    static void touchingBelowZero() {
        EdgeSweeps sweeps = new EdgeSweeps(2);
        Draw.box(sweeps, 0, 0, 0, 2, 2);
        int[] below = {-1, -2, LOW};
        for (int k : below) {
            CHECK.noIndex("k " + k, () -> sweeps.touching(0, 0, k));
            CHECK.noIndex("k " + k + ", where none touches", () -> sweeps.touching(0, 1, k));
            CHECK.noIndex("k " + k + ", of no layer", () -> sweeps.touching(2, 0, k));
        }
        firstAndLastLayer(s -> layer -> s.touching(layer, 0, 0));
        firstAndLastLayer(s -> layer -> s.touching(0, layer, HIGH));
    }

    // Promise 11

    @Sentence(of = "Promise 11", words = "How many nets a layer has.")
    static void noNetsOneOrMany() {
        CHECK.same("of an empty layer", new EdgeSweeps(1).nets(0), 0);
        CHECK.same("of the plane", Draw.plane().nets(0), 1);
        CHECK.same("of two at a corner", Draw.pictured(62, 62, "#.", ".#").nets(0), 1);
        CHECK.same("of two a square apart", Draw.pictured(61, 62, "#.#").nets(0), 2);
        EdgeSweeps board = Draw.checkerboard();
        CHECK.same("of every second square", board.nets(2), 1);
        CHECK.same("of columns", board.nets(0), 32);
        CHECK.same("of each second square of each second row", board.nets(board.op(1, 0, 1)), 1024);
    }

    @Sentence(of = "Promise 11", words = "IndexOutOfBoundsException.")
    static void netsOfNoLayer() {
        firstAndLastLayer(sweeps -> sweeps::nets);
    }

    // Promise 12

    @Sentence(of = "Promise 12", words = "The least shape of a shape's net.")
    static void leastShapeOfANet() {
        CHECK.text("one alone", Seen.nets(Draw.plane(), 0), "0");
        CHECK.text("three alone", Seen.nets(Draw.pictured(0, 0, "#.#.#"), 0), "0 1 2");
        CHECK.text("two and one", Seen.nets(Draw.pictured(0, 0, "...#.", "#...#"), 0), "0 1 1");
        CHECK.text("nets through each other", Seen.nets(Draw.pictured(0, 0, "#....#", ".#..#.", "......", "#....#"), 0),
                "0 1 2 3 2 3");
        EdgeSweeps board = Draw.checkerboard();
        CHECK.same("the first of the most", board.netOf(2, 0), 0);
        CHECK.same("the last of the most", board.netOf(2, 2047), 0);
        int apart = board.op(1, 0, 1);
        CHECK.same("the last of the most nets", board.netOf(apart, 1023), 1023);
    }

    @Sentence(of = "Promise 12", words = "IndexOutOfBoundsException.")
    static void netOfNoShape() {
        EdgeSweeps sweeps = Draw.pictured(0, 0, "#.#");
        int[] none = {-1, 2, LOW, HIGH};
        for (int shape : none) {
            CHECK.noIndex("shape " + shape, () -> sweeps.netOf(0, shape));
        }
        EdgeSweeps empty = new EdgeSweeps(1);
        CHECK.noIndex("shape 0 of none", () -> empty.netOf(0, 0));
        EdgeSweeps board = Draw.checkerboard();
        CHECK.noIndex("shape 2048 of the most", () -> board.netOf(2, 2048));
        firstAndLastLayer(s -> layer -> s.netOf(layer, 0));
    }

    // Promise 13

    @Sentence(of = "Promise 13", words = "Work is done in so many strips from now on (nothing else hangs on that)")
    static void nothingHangsOnStrips() {
        int[] numbers = {1, 2, 3, 32, 63, 64};
        for (int n : numbers) {
            EdgeSweeps sweeps = Draw.pictured(0, 31, "#####", "#...#", "#.#.#", "#...#", "#####");
            sweeps.strips(n);
            CHECK.same("shapes in " + n, sweeps.shapes(0), 2);
            CHECK.same("nets in " + n, sweeps.nets(0), 2);
            CHECK.same("length in " + n, sweeps.area2(0, 1), 36);
            CHECK.text("boxes in " + n, Seen.boxes(sweeps, 0), "0,31,5,32 0,32,1,33 4,32,5,33 0,33,1,34 2,33,3,34 "
                    + "4,33,5,34 0,34,1,35 4,34,5,35 0,35,5,36");
            CHECK.text("corners in " + n, Seen.corners(sweeps, 0, 0), "0,31 5,31 1,32 4,32 1,35 4,35 0,36 5,36");
            CHECK.same("grown in " + n, sweeps.area2(sweeps.size(0, 1, false), 0), 2 * 6 * 7);
            CHECK.same("strips in " + n, sweeps.strips(1), n);
        }
    }

    @Sentence(of = "Promise 13", words = "how many there were before (1 at first).")
    static void oneStripAtFirst() {
        EdgeSweeps sweeps = new EdgeSweeps(1);
        CHECK.same("at first", sweeps.strips(64), 1);
        CHECK.same("the greatest", sweeps.strips(1), 64);
        CHECK.same("the least", sweeps.strips(1), 1);
        for (int n = 2; n <= 64; n++) {
            CHECK.same("before " + n, sweeps.strips(n), n - 1);
        }
        CHECK.same("another object's are its own", new EdgeSweeps(1).strips(2), 1);
    }

    @Sentence(of = "Promise 13", words = "IndexOutOfBoundsException: n is not 1 .. 64.")
    static void tooFewOrTooManyStrips() {
        EdgeSweeps sweeps = new EdgeSweeps(1);
        int[] wrong = {0, 65, -1, 66, LOW, HIGH};
        for (int n : wrong) {
            CHECK.noIndex("strips " + n, () -> sweeps.strips(n));
        }
        CHECK.same("they are as at first", sweeps.strips(64), 1);
        for (int n : wrong) {
            CHECK.noIndex("strips " + n + " after 64", () -> sweeps.strips(n));
        }
        CHECK.same("they are as before", sweeps.strips(1), 64);
    }

    // Promise 14

    @Sentence(of = "Promise 14",
            words = "Of edge k of a layer: what = 0 its least x, 1 its least y, 2 its greatest x, 3 its greatest y")
    static void firstAndLastEdge() {
        EdgeSweeps board = Draw.checkerboard();
        int[] edges = {0, 4095, 4096, 8191};
        int[][] due = {{1, 0, 2, 0}, {62, 64, 63, 64}, {0, 1, 0, 2}, {64, 62, 64, 63}};
        for (int i = 0; i < 4; i++) {
            for (int what = 0; what < 4; what++) {
                CHECK.same("edge " + edges[i] + " what " + what, board.edge(2, edges[i], what), due[i][what]);
            }
        }
        EdgeSweeps column = new EdgeSweeps(1);
        Draw.box(column, 0, 63, 0, 64, 64);
        CHECK.text("of the last column", Seen.edges(column, 0),
                "63,0,64,0,1 63,64,64,64,-1 63,0,63,64,1 64,0,64,64,-1");
        EdgeSweeps row = new EdgeSweeps(1);
        Draw.box(row, 0, 0, 63, 64, 64);
        CHECK.text("of the last row", Seen.edges(row, 0), "0,63,64,63,1 0,64,64,64,-1 0,63,0,64,1 64,63,64,64,-1");
    }

    @Sentence(of = "Promise 14",
            words = "4 on which side the area is: 1 above or right of it, -1 below or left of it.")
    static void sidesOfEdges() {
        EdgeSweeps one = Draw.pictured(63, 63, "#");
        int[] due = {1, -1, 1, -1};
        for (int k = 0; k < 4; k++) {
            CHECK.same("side of edge " + k, one.edge(0, k, 4), due[k]);
        }
        EdgeSweeps hole = Draw.pictured(0, 0, "###", "#.#", "###");
        int[] round = {1, -1, 1, -1, 1, -1, 1, -1};
        for (int k = 0; k < 8; k++) {
            CHECK.same("side of edge " + k + " round a hole", hole.edge(0, k, 4), round[k]);
        }
        EdgeSweeps board = Draw.checkerboard();
        CHECK.same("at the lower rim it is above", board.edge(2, 0, 4), 1);
        CHECK.same("at the upper rim it is below", board.edge(2, 4095, 4), -1);
        CHECK.same("at the left rim it is right", board.edge(2, 4096, 4), 1);
        CHECK.same("at the right rim it is left", board.edge(2, 8191, 4), -1);
    }

    @Sentence(of = "Promise 14", words = "IndexOutOfBoundsException.")
    static void noSuchEdge() {
        EdgeSweeps sweeps = Draw.plane();
        int[] none = {-1, 5, 6, LOW, HIGH};
        for (int wrong : none) {
            for (int k = 0; k < 4; k++) {
                int asked = k;
                CHECK.noIndex("what " + wrong + " of edge " + k, () -> sweeps.edge(0, asked, wrong));
            }
        }
        int[] edges = {-1, 4, 5, LOW, LOW + 2, HIGH};
        for (int wrong : edges) {
            for (int what = 0; what < 5; what++) {
                int asked = what;
                CHECK.noIndex("edge " + wrong, () -> sweeps.edge(0, wrong, asked));
            }
        }
        EdgeSweeps empty = new EdgeSweeps(1);
        CHECK.noIndex("edge 0 of none", () -> empty.edge(0, 0, 0));
        CHECK.noIndex("edge -1 of none", () -> empty.edge(0, -1, 4));
        EdgeSweeps board = Draw.checkerboard();
        CHECK.noIndex("edge 8192 of the most", () -> board.edge(2, 8192, 0));
        firstAndLastLayer(s -> layer -> s.edge(layer, 3, 4));
    }

    // Promise 15

    @Sentence(of = "Promise 15",
            words = "Of box k of a layer: what = 0 its least x, 1 its least y, 2 its greatest x, 3 its greatest y.")
    static void firstAndLastBox() {
        EdgeSweeps board = Draw.checkerboard();
        int[] boxes = {0, 31, 32, 2047};
        int[][] due = {{1, 0, 2, 1}, {63, 0, 64, 1}, {0, 1, 1, 2}, {62, 63, 63, 64}};
        for (int i = 0; i < 4; i++) {
            for (int what = 0; what < 4; what++) {
                CHECK.same("box " + boxes[i] + " what " + what, board.trapezoid(2, boxes[i], what), due[i][what]);
            }
        }
        CHECK.text("the plane", Seen.boxes(Draw.plane(), 0), "0,0,64,64");
        CHECK.text("the last square", Seen.boxes(Draw.pictured(63, 63, "#"), 0), "63,63,64,64");
    }

    @Sentence(of = "Promise 15", words = "IndexOutOfBoundsException.")
    static void noSuchBox() {
        EdgeSweeps sweeps = Draw.pictured(0, 0, "#.#");
        int[] none = {-1, 4, 5, LOW, HIGH};
        for (int wrong : none) {
            CHECK.noIndex("what " + wrong, () -> sweeps.trapezoid(0, 0, wrong));
            CHECK.noIndex("what " + wrong + " of the last one", () -> sweeps.trapezoid(0, 1, wrong));
        }
        int[] boxes = {-1, 2, 3, LOW, HIGH};
        for (int wrong : boxes) {
            for (int what = 0; what < 4; what++) {
                int asked = what;
                CHECK.noIndex("box " + wrong, () -> sweeps.trapezoid(0, wrong, asked));
            }
        }
        EdgeSweeps empty = new EdgeSweeps(1);
        CHECK.noIndex("box 0 of none", () -> empty.trapezoid(0, 0, 0));
        CHECK.noIndex("box -1 of none", () -> empty.trapezoid(0, -1, 3));
        EdgeSweeps board = Draw.checkerboard();
        CHECK.noIndex("box 2048 of the most", () -> board.trapezoid(2, 2048, 0));
        firstAndLastLayer(s -> layer -> s.trapezoid(layer, 0, 3));
    }

    // Promise 16

    @Sentence(of = "Promise 16", words = "No polygons and no made layers are there any more")
    static void clearOfEmptyAndFull() {
        EdgeSweeps sweeps = new EdgeSweeps(2);
        sweeps.clear();
        nothingThere(sweeps);
        sweeps.clear();
        sweeps.clear();
        nothingThere(sweeps);
        for (int i = 0; i < 16; i++) {
            Draw.path(sweeps, i % 2, 0, 0, 64, 0, 64, 64, 0, 64, 0, 63, 0, 62, 0, 61, 0, 60);
        }
        for (int i = 0; i < 24; i++) {
            sweeps.op(0, 0, 1);
        }
        sweeps.clear();
        nothingThere(sweeps);
        for (int i = 0; i < 16; i++) {
            CHECK.same("polygons from the first on", sweeps.polygon(1), i);
            CHECK.same("without corners", corner(sweeps, i, 5, 6), 1);
        }
        CHECK.same("and without squares", sweeps.area2(1, 0), 0);
        for (int i = 0; i < 24; i++) {
            CHECK.same("made layers from the first on", sweeps.op(0, 0, 1), 2 + i);
            CHECK.same("without those of before", sweeps.area2(2 + i, 0), 0);
        }
    }

    private static void nothingThere(EdgeSweeps sweeps) {
        CHECK.noIndex("no polygon", () -> corner(sweeps, 0, 0, 0));
        CHECK.noIndex("no last polygon", () -> corner(sweeps, 15, 0, 0));
        CHECK.noIndex("no made layer", () -> sweeps.shapes(2));
        CHECK.noIndex("no last made layer", () -> sweeps.shapes(25));
        CHECK.same("no squares of the first layer", sweeps.area2(0, 0), 0);
        CHECK.same("no squares of the last layer", sweeps.area2(1, 0), 0);
        CHECK.noIndex("no more base layers", () -> sweeps.polygon(2));
    }

    @Sentence(of = "Promise 16", words = "strips stay.")
    static void stripsStay() {
        EdgeSweeps sweeps = new EdgeSweeps(1);
        sweeps.clear();
        CHECK.same("at first", sweeps.strips(64), 1);
        sweeps.clear();
        CHECK.same("the greatest", sweeps.strips(1), 64);
        sweeps.clear();
        sweeps.clear();
        CHECK.same("the least", sweeps.strips(2), 1);
    }

    private static long corner(EdgeSweeps sweeps, int polygon, long x, long y) {
        return sweeps.corner(polygon, x, y) ? 1 : 0;
    }
}
