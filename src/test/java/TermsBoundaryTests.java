/** The sentences of "What it is" and of "Terms" on areas, polygons, shapes, edges and boxes. */
public final class TermsBoundaryTests {
    private static final Check CHECK = new Check("TermsBoundaryTests");

    public static void main(String[] args) throws Exception {
        Boundaries.run(TermsBoundaryTests.class, CHECK, args);
    }

    // The plane and its squares

    @Sentence(of = "What it is", words = "THE PLANE has x and y from 0 to 64")
    static void planeFromZeroToSixtyFour() {
        EdgeSweeps sweeps = Draw.plane();
        CHECK.text("corners of the whole plane", Seen.corners(sweeps, 0, 0), "0,0 64,0 0,64 64,64");
        CHECK.noArgument("x below", () -> corner(sweeps, 0, -1, 64));
        CHECK.noArgument("x above", () -> corner(sweeps, 0, 65, 64));
        CHECK.noArgument("y below", () -> corner(sweeps, 0, 0, -1));
        CHECK.noArgument("y above", () -> corner(sweeps, 0, 0, 65));
    }

    @Sentence(of = "What it is", words = "An object is used for at most 512 calls after it has been made")
    static void lastOfAllCalls() {
        EdgeSweeps sweeps = new EdgeSweeps(1);
        Draw.box(sweeps, 0, 1, 1, 3, 3);
        for (int call = 6; call < 512; call++) {
            sweeps.strips(1 + call % 64);
        }
        CHECK.same("call 512", sweeps.area2(0, 0), 8);
        EdgeSweeps shrunk = Draw.plane();
        for (int call = 6; call < 511; call++) {
            shrunk.clear();
        }
        CHECK.same("call 511", shrunk.size(0, -64, true), 1);
        CHECK.same("call 512 of another object", shrunk.shapes(1), 0);
    }

    @Sentence(of = "Terms", words = "64 times 64 SQUARES, square (x, y) from x to x + 1 and from y to y + 1.")
    static void squaresOfThePlane() {
        EdgeSweeps sweeps = Draw.plane();
        CHECK.same("all squares", sweeps.area2(0, 0), 2 * 64 * 64);
        long[] ends = {0, 63};
        for (long x : ends) {
            for (long y : ends) {
                CHECK.yes("square " + x + " " + y, sweeps.in(0, x, y));
                EdgeSweeps one = new EdgeSweeps(1);
                Draw.box(one, 0, x, y, x + 1, y + 1);
                CHECK.same("one square", one.area2(0, 0), 2);
                CHECK.yes("it is that one", one.in(0, x, y));
            }
        }
    }

    @Sentence(of = "Terms", words = "An AREA is a set of squares.")
    static void emptyAndFullArea() {
        EdgeSweeps empty = new EdgeSweeps(1);
        CHECK.same("squares of none", empty.area2(0, 0), 0);
        CHECK.same("length of none", empty.area2(0, 1), 0);
        CHECK.same("shapes of none", empty.shapes(0), 0);
        CHECK.same("nets of none", empty.nets(0), 0);
        CHECK.text("edges of none", Seen.edges(empty, 0), "");
        CHECK.text("boxes of none", Seen.boxes(empty, 0), "");
        CHECK.text("touching of none", Seen.touching(empty, 0, 0), "");
        EdgeSweeps full = Draw.plane();
        CHECK.same("squares of all", full.area2(0, 0), 8192);
        CHECK.same("length of all", full.area2(0, 1), 256);
        CHECK.same("shapes of all", full.shapes(0), 1);
        CHECK.same("nets of all", full.nets(0), 1);
        CHECK.text("edges of all", Seen.edges(full, 0), "0,0,64,0,1 0,64,64,64,-1 0,0,0,64,1 64,0,64,64,-1");
        CHECK.text("boxes of all", Seen.boxes(full, 0), "0,0,64,64");
        CHECK.text("touching of all", Seen.touching(full, 0, 0), "0");
        EdgeSweeps twice = Draw.plane();
        Draw.box(twice, 0, 0, 0, 64, 64);
        CHECK.same("a square is in a set once", twice.area2(0, 0), 8192);
    }

    // Layers and polygons

    @Sentence(of = "Terms", words = "Layers 0 .. layers - 1 are BASE layers")
    static void firstAndLastBaseLayer() {
        EdgeSweeps sweeps = new EdgeSweeps(3);
        CHECK.same("on the first one", sweeps.polygon(0), 0);
        CHECK.same("on the last one", sweeps.polygon(2), 1);
        CHECK.noIndex("before the first one", () -> sweeps.polygon(-1));
        CHECK.noIndex("behind the last one", () -> sweeps.polygon(3));
        CHECK.noIndex("no layer before the first one", () -> sweeps.shapes(-1));
        CHECK.noIndex("no layer behind the last one", () -> sweeps.shapes(3));
    }

    @Sentence(of = "Terms", words = "with POLYGONS (16 at most, numbered in the order in which they were made)")
    static void sixteenPolygons() {
        EdgeSweeps sweeps = new EdgeSweeps(2);
        for (int i = 0; i < 16; i++) {
            CHECK.same("polygon in order", Draw.box(sweeps, 1 - i % 2, 4 * i, 4 * i, 4 * i + 1, 4 * i + 1), i);
        }
        CHECK.noState("one more on the first layer", () -> sweeps.polygon(0));
        CHECK.noState("one more on the last layer", () -> sweeps.polygon(1));
        CHECK.same("eight on the first layer", sweeps.shapes(0), 8);
        CHECK.same("eight on the last layer", sweeps.shapes(1), 8);
        CHECK.yes("the first one's square", sweeps.in(1, 0, 0));
        CHECK.yes("the last one's square", sweeps.in(0, 60, 60));
        EdgeSweeps one = new EdgeSweeps(1);
        for (int i = 0; i < 16; i++) {
            Draw.box(one, 0, 4 * i, 0, 4 * i + 1, 1);
        }
        CHECK.same("sixteen on one layer", one.shapes(0), 16);
    }

    @Sentence(of = "Terms", words = "further ones (24 at most) are made by operations")
    static void twentyFourMadeLayers() {
        EdgeSweeps sweeps = Draw.plane();
        for (int i = 1; i <= 24; i++) {
            CHECK.same("made layer", i % 2 == 0 ? sweeps.op(0, i - 1, 0) : sweeps.size(0, 1, false), i);
            CHECK.same("its squares", sweeps.area2(i, 0), 8192);
        }
        CHECK.noState("one more by op", () -> sweeps.op(0, 0, 24));
        CHECK.noState("one more by size", () -> sweeps.size(24, 1, true));
        CHECK.same("the last one is there", sweeps.shapes(24), 1);
        CHECK.noIndex("one more is not", () -> sweeps.shapes(25));
    }

    @Sentence(of = "Terms", words = "and stay as they were made.")
    static void madeLayersStay() {
        EdgeSweeps sweeps = new EdgeSweeps(1);
        int empty = sweeps.op(0, 0, 0);
        Draw.box(sweeps, 0, 2, 2, 4, 4);
        int box = sweeps.size(0, 1, false);
        int same = sweeps.op(0, box, box);
        Draw.box(sweeps, 0, 10, 10, 64, 64);
        sweeps.op(3, box, box);
        sweeps.size(box, 5, true);
        CHECK.same("made of nothing", sweeps.area2(empty, 0), 0);
        CHECK.same("made of a box", sweeps.area2(box, 0), 32);
        CHECK.same("made of a made one", sweeps.area2(same, 0), 32);
    }

    @Sentence(of = "Terms", words = "A POLYGON has up to 16 corners")
    static void sixteenCorners() {
        EdgeSweeps sweeps = new EdgeSweeps(1);
        Draw.path(sweeps, 0, stairs());
        CHECK.same("squares of the stairs", sweeps.area2(0, 0), 2 * (1 + 2 + 3 + 4 + 5 + 6 + 7));
        CHECK.noState("one corner more", () -> corner(sweeps, 0, 0, 5));
        CHECK.same("they are as before", sweeps.area2(0, 0), 2 * 28);
        EdgeSweeps fifteen = new EdgeSweeps(1);
        Draw.path(fifteen, 0, java.util.Arrays.copyOf(stairs(), 30));
        CHECK.same("fifteen are open here", fifteen.area2(0, 0), 0);
        CHECK.same("the sixteenth closes", corner(fifteen, 0, 0, 7), 1);
        CHECK.same("squares then", fifteen.area2(0, 0), 2 * 28);
    }

    /** Seven steps, rows of 7, 6, .. 1 squares: sixteen corners. */
    private static long[] stairs() {
        return new long[] {0, 0, 7, 0, 7, 1, 6, 1, 6, 2, 5, 2, 5, 3, 4, 3, 4, 4, 3, 4, 3, 5, 2, 5, 2, 6, 1, 6,
            1, 7, 0, 7};
    }

    @Sentence(of = "Terms", words = "whole numbers 0 .. 64")
    static void leastAndGreatestCorner() {
        long[] allowed = {0, 1, 63, 64};
        for (long x : allowed) {
            for (long y : allowed) {
                EdgeSweeps sweeps = new EdgeSweeps(1);
                sweeps.polygon(0);
                CHECK.same("corner " + x + " " + y, corner(sweeps, 0, x, y), 1);
            }
        }
        EdgeSweeps sweeps = new EdgeSweeps(1);
        sweeps.polygon(0);
        long[] beyond = {-1, 65, Long.MIN_VALUE, Long.MAX_VALUE, 1L << 32, (1L << 32) + 64, -(1L << 32)};
        for (long far : beyond) {
            CHECK.noArgument("x " + far, () -> corner(sweeps, 0, far, 0));
            CHECK.noArgument("y " + far, () -> corner(sweeps, 0, 0, far));
            CHECK.noArgument("both " + far, () -> corner(sweeps, 0, far, far));
        }
    }

    @Sentence(of = "Terms", words = "each next one differs from the one before in just one of x and y.")
    static void nextCornerInLine() {
        EdgeSweeps sweeps = new EdgeSweeps(1);
        Draw.path(sweeps, 0, 0, 0);
        CHECK.same("in none", corner(sweeps, 0, 0, 0), 0);
        CHECK.same("in both, by the least", corner(sweeps, 0, 1, 1), 0);
        CHECK.same("in both, by the greatest", corner(sweeps, 0, 64, 64), 0);
        CHECK.same("in x by the least", corner(sweeps, 0, 1, 0), 1);
        CHECK.same("in y by the greatest", corner(sweeps, 0, 1, 64), 1);
        CHECK.same("in x again, back", corner(sweeps, 0, 0, 64), 1);
        CHECK.same("in both of the one before, not of the first", corner(sweeps, 0, 1, 0), 0);
        CHECK.same("squares", sweeps.area2(0, 0), 2 * 64);
        CHECK.same("on along the same line", corner(sweeps, 0, 0, 32), 1);
        CHECK.same("squares with a corner on an edge", sweeps.area2(0, 0), 2 * 64);
    }

    @Sentence(of = "Terms", words = "It is OPEN, and has no squares, if it has fewer than four corners")
    static void fewerThanFourCorners() {
        EdgeSweeps sweeps = new EdgeSweeps(1);
        sweeps.polygon(0);
        long[] box = {0, 0, 64, 0, 64, 64, 0, 64};
        for (int corners = 0; corners < 4; corners++) {
            CHECK.same("squares with " + corners, sweeps.area2(0, 0), 0);
            CHECK.same("shapes with " + corners, sweeps.shapes(0), 0);
            CHECK.same("length with " + corners, sweeps.area2(0, 1), 0);
            CHECK.same("corner", corner(sweeps, 0, box[2 * corners], box[2 * corners + 1]), 1);
        }
        CHECK.same("squares with four", sweeps.area2(0, 0), 8192);
        EdgeSweeps line = new EdgeSweeps(1);
        Draw.path(line, 0, 1, 1, 5, 1, 3, 1);
        CHECK.same("three in a line, the last one in line with the first", line.area2(0, 0), 0);
        Draw.path(line, 0, 1, 1, 5, 1, 3, 1, 4, 1);
        CHECK.same("four in a line go round no square", line.area2(0, 0), 0);
    }

    @Sentence(of = "Terms", words = "or the last one does not differ from the first one in just one of x and y")
    static void lastCornerOutOfLine() {
        EdgeSweeps sweeps = new EdgeSweeps(1);
        Draw.path(sweeps, 0, 1, 1, 5, 1, 5, 5, 2, 5);
        CHECK.same("four corners, differing in both", sweeps.area2(0, 0), 0);
        CHECK.same("a fifth in line", corner(sweeps, 0, 2, 1), 1);
        CHECK.same("differing in one", sweeps.area2(0, 0), 2 * 12);
        CHECK.same("a sixth, on the first one", corner(sweeps, 0, 1, 1), 1);
        CHECK.same("differing in none", sweeps.area2(0, 0), 0);
        CHECK.same("a seventh", corner(sweeps, 0, 1, 3), 1);
        CHECK.same("differing in one again", sweeps.area2(0, 0), 2 * 12);
        EdgeSweeps full = new EdgeSweeps(1);
        Draw.path(full, 0, 0, 0, 1, 0, 1, 1, 2, 1, 2, 2, 3, 2, 3, 3, 4, 3, 4, 4, 5, 4, 5, 5, 6, 5, 6, 6, 7, 6,
                7, 7, 8, 7);
        CHECK.same("sixteen corners and open", full.area2(0, 0), 0);
        CHECK.noState("it stays open", () -> corner(full, 0, 8, 0));
    }

    @Sentence(of = "Terms", words = "its squares are those from whose middle on, going to greater x, its edges")
    static void edgesAtTheRims() {
        EdgeSweeps left = new EdgeSweeps(1);
        Draw.box(left, 0, 0, 0, 1, 64);
        CHECK.text("the least column", Seen.boxes(left, 0), "0,0,1,64");
        EdgeSweeps right = new EdgeSweeps(1);
        Draw.box(right, 0, 63, 0, 64, 64);
        CHECK.text("the greatest column", Seen.boxes(right, 0), "63,0,64,64");
        EdgeSweeps low = new EdgeSweeps(1);
        Draw.box(low, 0, 0, 0, 64, 1);
        CHECK.text("the least row", Seen.boxes(low, 0), "0,0,64,1");
        EdgeSweeps high = new EdgeSweeps(1);
        Draw.box(high, 0, 0, 63, 64, 64);
        CHECK.text("the greatest row", Seen.boxes(high, 0), "0,63,64,64");
        EdgeSweeps turned = new EdgeSweeps(1);
        Draw.path(turned, 0, 64, 64, 64, 0, 0, 0, 0, 64);
        CHECK.text("the other way round", Seen.boxes(turned, 0), "0,0,64,64");
    }

    @Sentence(of = "Terms", words = "(from corner to corner, and from the last one to the first one)")
    static void lastEdgeStandingOrLying() {
        EdgeSweeps standing = new EdgeSweeps(1);
        Draw.path(standing, 0, 2, 2, 5, 2, 5, 4, 2, 4);
        CHECK.text("the last edge stands", Seen.boxes(standing, 0), "2,2,5,4");
        EdgeSweeps lying = new EdgeSweeps(1);
        Draw.path(lying, 0, 5, 2, 5, 4, 2, 4, 2, 2);
        CHECK.text("the last edge lies", Seen.boxes(lying, 0), "2,2,5,4");
        EdgeSweeps parts = new EdgeSweeps(1);
        Draw.path(parts, 0, 2, 3, 2, 2, 5, 2, 5, 4, 2, 4);
        CHECK.text("the last edge is a part of a side", Seen.boxes(parts, 0), "2,2,5,4");
    }

    @Sentence(of = "Terms", words = "are met an odd number of times.")
    static void oddAndEven() {
        EdgeSweeps hole = new EdgeSweeps(1);
        Draw.path(hole, 0, 0, 0, 6, 0, 6, 6, 0, 6, 0, 2, 2, 2, 2, 4, 4, 4, 4, 2, 0, 2);
        CHECK.text("two more edges: none", Seen.squares(hole, 0, 0, 0, 6, 6),
                "######/######/##..##/##..##/######/######");
        EdgeSweeps twice = new EdgeSweeps(1);
        Draw.path(twice, 0, 1, 1, 5, 1, 5, 5, 1, 5, 1, 1, 5, 1, 5, 5, 1, 5);
        CHECK.same("twice round", twice.area2(0, 0), 0);
        EdgeSweeps thrice = new EdgeSweeps(1);
        Draw.path(thrice, 0, 1, 1, 5, 1, 5, 5, 1, 5, 1, 1, 5, 1, 5, 5, 1, 5, 1, 1, 5, 1, 5, 5, 1, 5);
        CHECK.same("three times round", thrice.area2(0, 0), 2 * 16);
        EdgeSweeps back = new EdgeSweeps(1);
        Draw.path(back, 0, 3, 0, 3, 64, 3, 0, 3, 64);
        CHECK.same("there and back", back.area2(0, 0), 0);
        EdgeSweeps eight = new EdgeSweeps(1);
        Draw.path(eight, 0, 0, 0, 2, 0, 2, 4, 4, 4, 4, 2, 0, 2);
        CHECK.text("an eight", Seen.squares(eight, 0, 0, 0, 5, 5), "...../..##./..##./##.../##...");
    }

    @Sentence(of = "Terms", words = "The area of a base layer are the squares of all its polygons.")
    static void squaresOfAllPolygons() {
        EdgeSweeps sweeps = new EdgeSweeps(2);
        CHECK.same("without polygons", sweeps.area2(0, 0), 0);
        sweeps.polygon(0);
        CHECK.same("with an empty one", sweeps.area2(0, 0), 0);
        Draw.box(sweeps, 0, 0, 0, 4, 4);
        Draw.box(sweeps, 0, 2, 2, 6, 6);
        Draw.box(sweeps, 0, 2, 2, 4, 4);
        CHECK.same("what two have counts once, and is not taken out", sweeps.area2(0, 0), 2 * 28);
        Draw.path(sweeps, 0, 10, 10, 20, 10, 20, 20);
        CHECK.same("an open one adds none", sweeps.area2(0, 0), 2 * 28);
        CHECK.same("the other layer has none of them", sweeps.area2(1, 0), 0);
        Draw.box(sweeps, 1, 0, 0, 64, 64);
        CHECK.same("nor has it that layer's", sweeps.area2(0, 0), 2 * 28);
        for (int i = 6; i < 16; i++) {
            Draw.box(sweeps, 0, 0, 4 * i, 1, 4 * i + 1);
        }
        CHECK.same("all up to the sixteenth", sweeps.area2(0, 0), 2 * (28 + 10));
    }

    // Shapes and nets

    @Sentence(of = "Terms",
            words = "its parts that hang together over edges of squares (at corners alone they do not)")
    static void overEdgesNotAtCorners() {
        CHECK.same("at a corner going up", Draw.pictured(5, 5, ".#", "#.").shapes(0), 2);
        CHECK.same("at a corner going down", Draw.pictured(5, 5, "#.", ".#").shapes(0), 2);
        CHECK.same("side by side", Draw.pictured(5, 5, "##").shapes(0), 1);
        CHECK.same("one above the other", Draw.pictured(5, 5, "#", "#").shapes(0), 1);
        CHECK.same("round the corner", Draw.pictured(5, 5, "##", "#.").shapes(0), 1);
        CHECK.same("a square between", Draw.pictured(5, 5, "#.#").shapes(0), 2);
        CHECK.same("a row between", Draw.pictured(5, 5, "#", ".", "#").shapes(0), 2);
        CHECK.same("arms that meet in the last row", Draw.pictured(5, 60, "#####", "#.#.#", "#.#.#").shapes(0), 1);
        CHECK.same("arms that meet in the first row", Draw.pictured(5, 0, "#.#.#", "#.#.#", "#####").shapes(0), 1);
        CHECK.same("one within a ring", Draw.pictured(5, 5, "#####", "#...#", "#.#.#", "#...#", "#####").shapes(0), 2);
        EdgeSweeps rims = new EdgeSweeps(1);
        Draw.box(rims, 0, 63, 0, 64, 1);
        Draw.box(rims, 0, 0, 1, 1, 2);
        Draw.box(rims, 0, 0, 63, 1, 64);
        CHECK.same("rims across from each other are apart", rims.shapes(0), 3);
        CHECK.same("and in nets of their own", rims.nets(0), 3);
    }

    @Sentence(of = "Terms", words = "numbered by their lowest row of squares, then by the leftmost square in that.")
    static void orderOfShapes() {
        EdgeSweeps sweeps = new EdgeSweeps(1);
        Draw.box(sweeps, 0, 0, 9, 1, 10);
        Draw.box(sweeps, 0, 60, 8, 61, 12);
        Draw.picture(sweeps, 0, 20, 8, "###.", "..##");
        Draw.box(sweeps, 0, 21, 8, 22, 9);
        CHECK.same("shapes", sweeps.shapes(0), 3);
        CHECK.text("leftmost in the lowest row", Seen.corners(sweeps, 0, 0),
                "21,8 24,8 20,9 21,9 23,9 24,9 20,10 23,10");
        CHECK.same("right in that row", sweeps.at(0, 1, 0, 0), 60);
        CHECK.same("in the next row", sweeps.at(0, 2, 0, 0), 0);
    }

    @Sentence(of = "Terms", words = "numbered by their lowest row of squares")
    static void lowestRowGoesFirst() {
        EdgeSweeps sweeps = Draw.pictured(10, 10, "#####", "#.#.#", "..#.#", "....#");
        CHECK.same("one shape by its rightmost foot", sweeps.shapes(0), 1);
        Draw.box(sweeps, 0, 11, 10, 12, 11);
        CHECK.same("a square left of the foot", sweeps.shapes(0), 2);
        CHECK.same("goes before it", sweeps.at(0, 0, 0, 0), 11);
        CHECK.same("the foot's shape goes behind", sweeps.at(0, 1, 0, 0), 14);
        Draw.box(sweeps, 0, 63, 0, 64, 1);
        CHECK.same("the lowest one is the first now", sweeps.at(0, 0, 0, 0), 63);
    }

    @Sentence(of = "Terms", words = "They TOUCH another one or an area if a square of theirs and one of that have "
            + "a point in common (also: are the same).")
    static void touchInAPoint() {
        int[] steps = {-2, -1, 0, 1, 2};
        for (int dx : steps) {
            for (int dy : steps) {
                EdgeSweeps sweeps = new EdgeSweeps(2);
                Draw.box(sweeps, 0, 30, 30, 31, 31);
                Draw.box(sweeps, 1, 30 + dx, 30 + dy, 31 + dx, 31 + dy);
                boolean due = Math.abs(dx) < 2 && Math.abs(dy) < 2;
                CHECK.text("touching " + dx + " " + dy, Seen.touching(sweeps, 0, 1), due ? "0" : "");
                CHECK.same("op 5 " + dx + " " + dy, sweeps.shapes(sweeps.op(5, 0, 1)), due ? 1 : 0);
            }
        }
        EdgeSweeps rims = new EdgeSweeps(2);
        Draw.box(rims, 0, 63, 5, 64, 6);
        Draw.box(rims, 0, 5, 63, 6, 64);
        Draw.box(rims, 1, 0, 4, 1, 8);
        Draw.box(rims, 1, 4, 0, 8, 1);
        CHECK.text("not round the plane's rim", Seen.touching(rims, 0, 1), "");
    }

    @Sentence(of = "Terms", words = "NETS are shapes joined by touching one another, directly or over others.")
    static void directlyOrOverOthers() {
        EdgeSweeps chain = Draw.pictured(0, 0, "#.#.#", ".#.#.");
        CHECK.text("over others", Seen.nets(chain, 0), "0 0 0 0 0");
        CHECK.same("one net", chain.nets(0), 1);
        EdgeSweeps apart = Draw.pictured(0, 0, "#..#", ".#..");
        CHECK.text("a square between", Seen.nets(apart, 0), "0 0 2");
        CHECK.same("two nets", apart.nets(0), 2);
        EdgeSweeps ring = Draw.pictured(0, 0, ".#.", "#.#", ".#.");
        CHECK.text("a ring of four", Seen.nets(ring, 0), "0 0 0 0");
        CHECK.same("that is one net", ring.nets(0), 1);
        EdgeSweeps late = Draw.pictured(0, 0, ".###", "#..#", "..#.");
        CHECK.text("joined by the last one", Seen.nets(late, 0), "0 0 0");
        CHECK.same("one alone is a net", Draw.plane().nets(0), 1);
    }

    // Corners

    @Sentence(of = "Terms",
            words = "CORNERS of a shape are points around which just one or three of four squares are the shape's")
    static void cornersOfOneAndThree() {
        CHECK.text("one square", Seen.corners(Draw.pictured(5, 5, "#"), 0, 0), "5,5 6,5 5,6 6,6");
        CHECK.text("no corner along a side", Seen.corners(Draw.pictured(5, 5, "##", "##"), 0, 0),
                "5,5 7,5 5,7 7,7");
        CHECK.text("three of four", Seen.corners(Draw.pictured(5, 5, "#.", "##"), 0, 0),
                "5,5 7,5 6,6 7,6 5,7 6,7");
        CHECK.text("a hole's corners too", Seen.corners(Draw.pictured(5, 5, "###", "#.#", "###"), 0, 0),
                "5,5 8,5 6,6 7,6 6,7 7,7 5,8 8,8");
        EdgeSweeps nested = Draw.pictured(5, 5, "#####", "#...#", "#.#.#", "#...#", "#####");
        CHECK.text("another shape's squares do not count", Seen.corners(nested, 0, 1), "7,7 8,7 7,8 8,8");
        EdgeSweeps pair = Draw.pictured(5, 5, ".#", "#.");
        CHECK.text("nor do those at a corner", Seen.corners(pair, 0, 0), "5,5 6,5 5,6 6,6");
        CHECK.text("of either one", Seen.corners(pair, 0, 1), "6,6 7,6 6,7 7,7");
    }

    @Sentence(of = "Terms", words = "or two that lie across from each other")
    static void cornersOfTwoAcross() {
        CHECK.text("across, going up", Seen.corners(Draw.pictured(5, 5, "###", "#.#", "##."), 0, 0),
                "5,5 7,5 6,6 7,6 8,6 6,7 7,7 5,8 8,8");
        CHECK.text("across, going down", Seen.corners(Draw.pictured(5, 5, "###", "#.#", ".##"), 0, 0),
                "6,5 8,5 5,6 6,6 7,6 6,7 7,7 5,8 8,8");
        CHECK.text("two side by side are none", Seen.corners(Draw.pictured(5, 5, "##", "##", "##"), 0, 0),
                "5,5 7,5 5,8 7,8");
    }

    @Sentence(of = "Terms", words = "(squares beyond the plane are none).")
    static void cornersAtTheRim() {
        CHECK.text("the plane's own corners", Seen.corners(Draw.plane(), 0, 0), "0,0 64,0 0,64 64,64");
        CHECK.text("first square", Seen.corners(Draw.pictured(0, 0, "#"), 0, 0), "0,0 1,0 0,1 1,1");
        CHECK.text("last square", Seen.corners(Draw.pictured(63, 63, "#"), 0, 0), "63,63 64,63 63,64 64,64");
        CHECK.text("last of the first row", Seen.corners(Draw.pictured(63, 0, "#"), 0, 0), "63,0 64,0 63,1 64,1");
        CHECK.text("first of the last row", Seen.corners(Draw.pictured(0, 63, "#"), 0, 0), "0,63 1,63 0,64 1,64");
        CHECK.text("steps along the right rim", Seen.corners(Draw.pictured(62, 30, "##", "#.", "##"), 0, 0),
                "62,30 64,30 63,31 64,31 63,32 64,32 62,33 64,33");
        CHECK.text("steps along the upper rim", Seen.corners(Draw.pictured(30, 62, "#.#", "###"), 0, 0),
                "30,62 33,62 31,63 32,63 30,64 31,64 32,64 33,64");
        EdgeSweeps column = new EdgeSweeps(1);
        Draw.box(column, 0, 63, 0, 64, 64);
        CHECK.text("the last column", Seen.corners(column, 0, 0), "63,0 64,0 63,64 64,64");
    }

    // Edges

    @Sentence(of = "Terms", words = "EDGES of an area: as long as may be, parts of lines")
    static void edgesAsLongAsMayBe() {
        EdgeSweeps sweeps = new EdgeSweeps(1);
        for (int i = 0; i < 4; i++) {
            Draw.box(sweeps, 0, 16 * i, 10, 16 * i + 16, 11 + i);
        }
        CHECK.same("from rim to rim", sweeps.edge(0, 0, 2), 64);
        CHECK.same("over all boxes", sweeps.edge(0, 0, 0), 0);
        CHECK.text("a hole cuts none", Seen.edges(Draw.pictured(5, 5, "###", "#.#", "###"), 0),
                "5,5,8,5,1 6,6,7,6,-1 6,7,7,7,1 5,8,8,8,-1 "
                + "5,5,5,8,1 6,6,6,7,-1 7,6,7,7,1 8,5,8,8,-1");
        CHECK.text("a gap cuts", Seen.edges(Draw.pictured(5, 5, "#.#", "###"), 0),
                "5,5,8,5,1 6,6,7,6,-1 5,7,6,7,-1 7,7,8,7,-1 "
                + "5,5,5,7,1 6,6,6,7,-1 7,6,7,7,1 8,5,8,7,-1");
        CHECK.text("one square", Seen.edges(Draw.pictured(0, 0, "#"), 0),
                "0,0,1,0,1 0,1,1,1,-1 0,0,0,1,1 1,0,1,1,-1");
    }

    @Sentence(of = "Terms", words = "lying (first, by y, then by x) or standing (by x, then by y)")
    static void orderOfEdges() {
        EdgeSweeps sweeps = new EdgeSweeps(1);
        Draw.box(sweeps, 0, 40, 4, 41, 5);
        Draw.box(sweeps, 0, 4, 4, 5, 5);
        Draw.box(sweeps, 0, 4, 40, 5, 41);
        CHECK.text("lying ones, then standing ones", Seen.edges(sweeps, 0),
                "4,4,5,4,1 40,4,41,4,1 4,5,5,5,-1 40,5,41,5,-1 4,40,5,40,1 4,41,5,41,-1 "
                + "4,4,4,5,1 4,40,4,41,1 5,4,5,5,-1 5,40,5,41,-1 40,4,40,5,1 41,4,41,5,-1");
    }

    @Sentence(of = "Terms",
            words = "along which all squares on one side are in the area, all on the other side are not.")
    static void oneSideInOneSideOut() {
        CHECK.text("the side changes at a corner point", Seen.edges(Draw.pictured(5, 5, ".#", "#."), 0),
                "5,5,6,5,1 5,6,6,6,-1 6,6,7,6,1 6,7,7,7,-1 "
                + "5,5,5,6,1 6,5,6,6,-1 6,6,6,7,1 7,6,7,7,-1");
        CHECK.text("and the other way", Seen.edges(Draw.pictured(5, 5, "#.", ".#"), 0),
                "6,5,7,5,1 5,6,6,6,1 6,6,7,6,-1 5,7,6,7,-1 "
                + "5,6,5,7,1 6,5,6,6,1 6,6,6,7,-1 7,5,7,6,-1");
        CHECK.text("beyond the plane are none", Seen.edges(Draw.plane(), 0),
                "0,0,64,0,1 0,64,64,64,-1 0,0,0,64,1 64,0,64,64,-1");
        EdgeSweeps beside = new EdgeSweeps(1);
        Draw.box(beside, 0, 0, 0, 32, 64);
        Draw.box(beside, 0, 32, 0, 64, 64);
        CHECK.text("no edge within", Seen.edges(beside, 0), "0,0,64,0,1 0,64,64,64,-1 0,0,0,64,1 64,0,64,64,-1");
    }

    // Boxes

    @Sentence(of = "Terms", words = "BOXES of an area: between each two neighbouring y at which a lying edge is")
    static void boxesBetweenLyingEdges() {
        EdgeSweeps sweeps = new EdgeSweeps(1);
        Draw.box(sweeps, 0, 0, 0, 2, 10);
        Draw.box(sweeps, 0, 60, 4, 64, 6);
        CHECK.text("a far lying edge cuts too", Seen.boxes(sweeps, 0),
                "0,0,2,4 0,4,2,6 60,4,64,6 0,6,2,10");
        EdgeSweeps gap = new EdgeSweeps(1);
        Draw.box(gap, 0, 0, 0, 2, 2);
        Draw.box(gap, 0, 0, 10, 2, 12);
        CHECK.text("none where rows are empty", Seen.boxes(gap, 0), "0,0,2,2 0,10,2,12");
        EdgeSweeps moved = Draw.pictured(0, 0, ".##", "##.");
        CHECK.text("rows of as many squares, elsewhere", Seen.boxes(moved, 0), "0,0,2,1 1,1,3,2");
        EdgeSweeps hole = Draw.pictured(0, 0, "###", "#.#", "###");
        CHECK.text("round a hole", Seen.boxes(hole, 0), "0,0,3,1 0,1,1,2 2,1,3,2 0,2,3,3");
    }

    @Sentence(of = "Terms", words = "(or the area's least and greatest y)")
    static void boxesFromLeastToGreatestY() {
        CHECK.text("the whole plane", Seen.boxes(Draw.plane(), 0), "0,0,64,64");
        EdgeSweeps inside = new EdgeSweeps(1);
        Draw.box(inside, 0, 3, 20, 6, 40);
        CHECK.text("within the plane", Seen.boxes(inside, 0), "3,20,6,40");
        EdgeSweeps up = new EdgeSweeps(1);
        Draw.box(up, 0, 3, 63, 6, 64);
        CHECK.text("the last row", Seen.boxes(up, 0), "3,63,6,64");
        EdgeSweeps down = new EdgeSweeps(1);
        Draw.box(down, 0, 3, 0, 6, 1);
        CHECK.text("the first row", Seen.boxes(down, 0), "3,0,6,1");
    }

    @Sentence(of = "Terms", words = "runs of squares in a row as long as may be, by y, then by x.")
    static void orderOfBoxes() {
        EdgeSweeps sweeps = new EdgeSweeps(1);
        Draw.box(sweeps, 0, 32, 8, 64, 12);
        Draw.box(sweeps, 0, 0, 8, 32, 12);
        Draw.box(sweeps, 0, 50, 2, 52, 4);
        Draw.box(sweeps, 0, 10, 2, 12, 4);
        CHECK.text("as long as the plane", Seen.boxes(sweeps, 0), "10,2,12,4 50,2,52,4 0,8,64,12");
        EdgeSweeps combs = new EdgeSweeps(1);
        Draw.columns(combs, 0, 0);
        CHECK.same("last of 32 boxes", combs.trapezoid(0, 31, 0), 62);
        CHECK.noIndex("no box more", () -> combs.trapezoid(0, 32, 0));
    }

    private static long corner(EdgeSweeps sweeps, int polygon, long x, long y) {
        return sweeps.corner(polygon, x, y) ? 1 : 0;
    }
}
