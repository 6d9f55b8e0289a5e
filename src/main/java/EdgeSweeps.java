import java.util.Arrays;

/**
 * Layers of areas on a plane of 64 times 64 squares. An area is held as 64 rows of bits: bit x of
 * row y is square (x, y), so that most work goes over a whole row at once.
 */
public final class EdgeSweeps {
    public static final int NONE = -1;

    private static final int SIDE = 64;
    private static final int MOST_LAYERS = 65536;
    private static final int MOST_MADE = 24;
    private static final int MOST_POLYGONS = 16;
    private static final int MOST_CORNERS = 16;
    private static final int FEWEST_CORNERS = 4;
    private static final int MOST_STRIPS = 64;
    // A row has at most a run in every second square.
    private static final int MOST_RUNS = SIDE * SIDE / 2;

    private static final int UNION = 0;
    private static final int COMMON = 1;
    private static final int DIFFERENCE = 2;
    private static final int EITHER = 3;
    private static final int INSIDE = 4;
    private static final int TOUCHING = 5;

    private static final int LEAST_X = 0;
    private static final int LEAST_Y = 1;
    private static final int GREATEST_X = 2;
    private static final int GREATEST_Y = 3;
    private static final int AREA_SIDE = 4;

    private final int baseLayers;
    private final Polygons polygons = new Polygons();
    private final long[][] made = new long[MOST_MADE][SIDE];
    private int madeCount = 0;
    private int stripCount = 1;
    private final Parts parts = new Parts();
    // Rows that the calls work in, made once, so that no call makes any.
    private final long[] first = new long[SIDE];
    private final long[] second = new long[SIDE];
    private final long[] spare = new long[SIDE];

    public EdgeSweeps(int layers) {
        baseLayers = Math.min(Math.max(layers, 1), MOST_LAYERS);
    }

    public int polygon(int layer) throws IndexOutOfBoundsException, IllegalStateException {
        if (!isBase(layer)) {
            throw new IndexOutOfBoundsException("no such base layer");
        }
        if (polygons.isFull()) {
            throw new IllegalStateException("there are 16 polygons");
        }
        return polygons.start(layer);
    }

    public boolean corner(int polygon, long x, long y)
            throws IndexOutOfBoundsException, IllegalStateException, IllegalArgumentException {
        if (!polygons.has(polygon)) {
            throw new IndexOutOfBoundsException("no such polygon");
        }
        if (polygons.hasAllCorners(polygon)) {
            throw new IllegalStateException("the polygon has 16 corners");
        }
        if (x < 0 || x > SIDE || y < 0 || y > SIDE) {
            throw new IllegalArgumentException("x or y is not 0 .. 64");
        }
        return polygons.extend(polygon, (int) x, (int) y);
    }

    public int op(int what, int a, int b)
            throws IndexOutOfBoundsException, IllegalStateException, IllegalArgumentException {
        needLayer(a);
        needLayer(b);
        needRoomForLayer();
        if (what < UNION || what > TOUCHING) {
            throw new IllegalArgumentException("no such operation");
        }
        long[] left = areaOf(a, first);
        long[] right = areaOf(b, second);
        long[] into = made[madeCount];
        if (what == INSIDE) {
            Rows.complement(right, spare);
            parts.findShapes(left);
            parts.markMeeting(spare);
            parts.gather(false, into);
        } else if (what == TOUCHING) {
            markTouching(left, right);
            parts.gather(true, into);
        } else {
            combine(what, left, right, into);
        }
        return addMade();
    }

    public int size(int layer, long by, boolean octagon)
            throws IndexOutOfBoundsException, IllegalStateException, IllegalArgumentException {
        needLayer(layer);
        needRoomForLayer();
        if (by == 0 || by < -SIDE || by > SIDE) {
            throw new IllegalArgumentException("by is 0 or beyond 64");
        }
        boolean grow = by > 0;
        int far = (int) (grow ? by : -by);
        int near = octagon ? far / 2 : far;
        long[] area = areaOf(layer, first);
        long[] into = made[madeCount];
        Rows.resize(area, into, far, near, grow);
        if (octagon) {
            // The octagon is two oblongs, one lying and one standing: to meet it is to meet one
            // of them, to hold it is to hold both.
            Rows.resize(area, spare, near, far, grow);
            combine(grow ? UNION : COMMON, into, spare, into);
        }
        return addMade();
    }

    public int shapes(int layer) throws IndexOutOfBoundsException {
        needLayer(layer);
        parts.findShapes(areaOf(layer, first));
        return parts.countShapes();
    }

    public long at(int layer, int shape, int k, int axis) throws IndexOutOfBoundsException {
        needLayer(layer);
        needIndex(axis, 2);
        parts.findShapes(areaOf(layer, first));
        needIndex(shape, parts.countShapes());
        parts.copyShape(shape, spare);
        return Lines.cornerFact(spare, k, axis);
    }

    public boolean in(int layer, long x, long y) throws IndexOutOfBoundsException {
        needLayer(layer);
        if (x < 0 || x >= SIDE || y < 0 || y >= SIDE) {
            return false;
        }
        long row = Rows.row(areaOf(layer, first), (int) y);
        return ((row >>> (int) x) & 1L) != 0;
    }

    public long area2(int layer, int limb) throws IndexOutOfBoundsException {
        needLayer(layer);
        needIndex(limb, 2);
        long[] area = areaOf(layer, first);
        return limb == 0 ? 2L * Rows.countSquares(area) : Lines.totalLength(area);
    }

    public int touching(int a, int b, int k) throws IndexOutOfBoundsException {
        needLayer(a);
        needLayer(b);
        if (k < 0) {
            throw new IndexOutOfBoundsException("k is below 0");
        }
        markTouching(areaOf(a, first), areaOf(b, second));
        return parts.markedShape(k);
    }

    public int nets(int layer) throws IndexOutOfBoundsException {
        needLayer(layer);
        long[] area = areaOf(layer, first);
        parts.findShapes(area);
        parts.findNets(area);
        return parts.countNets();
    }

    public int netOf(int layer, int shape) throws IndexOutOfBoundsException {
        needLayer(layer);
        long[] area = areaOf(layer, first);
        parts.findShapes(area);
        needIndex(shape, parts.countShapes());
        parts.findNets(area);
        return parts.leastOfNet(shape);
    }

    public int strips(int n) throws IndexOutOfBoundsException {
        if (n < 1 || n > MOST_STRIPS) {
            throw new IndexOutOfBoundsException("n is not 1 .. 64");
        }
        int before = stripCount;
        stripCount = n;
        return before;
    }

    public int edge(int layer, int k, int what) throws IndexOutOfBoundsException {
        needLayer(layer);
        needIndex(what, AREA_SIDE + 1);
        long[] area = areaOf(layer, first);
        int lying = Lines.countLying(area);
        if (k < lying) {
            return Lines.lyingFact(area, k, what);
        }
        // Turned round the diagonal, standing edges lie, and come in the order that is due.
        Rows.copy(area, spare);
        Rows.turn(spare);
        return Lines.lyingFact(spare, k - lying, Lines.turnedFact(what));
    }

    public int trapezoid(int layer, int k, int what) throws IndexOutOfBoundsException {
        needLayer(layer);
        needIndex(what, GREATEST_Y + 1);
        return Lines.boxFact(areaOf(layer, first), k, what);
    }

    public void clear() {
        polygons.forget();
        madeCount = 0;
    }

    private boolean isBase(int layer) {
        return layer >= 0 && layer < baseLayers;
    }

    private void needLayer(int layer) {
        needIndex(layer, baseLayers + madeCount);
    }

    private static void needIndex(int index, int count) {
        if (index < 0 || index >= count) {
            throw new IndexOutOfBoundsException("no such thing");
        }
    }

    private void needRoomForLayer() {
        if (madeCount >= MOST_MADE) {
            throw new IllegalStateException("there are 24 made layers");
        }
    }

    private int addMade() {
        int layer = baseLayers + madeCount;
        madeCount++;
        return layer;
    }

    /** The rows of a layer that is there; a base layer's are painted into the rows given. */
    private long[] areaOf(int layer, long[] rows) {
        int place = layer - baseLayers;
        if (place >= 0 && place < madeCount) {
            return made[place];
        }
        polygons.paint(layer, rows);
        return rows;
    }

    /** Finds the shapes of the left area and marks those that touch the right one. */
    private void markTouching(long[] left, long[] right) {
        Rows.resize(right, spare, 1, 1, true);
        parts.findShapes(left);
        parts.markMeeting(spare);
    }

    private static void combine(int what, long[] left, long[] right, long[] into) {
        for (int y = 0; y < SIDE; y++) {
            into[y] = combineRow(what, left[y], right[y]);
        }
    }

    private static long combineRow(int what, long left, long right) {
        switch (what) {
            case UNION:
                return left | right;
            case COMMON:
                return left & right;
            case DIFFERENCE:
                return left & ~right;
            case EITHER:
                return left ^ right;
            default:
                return 0L;
        }
    }

    /** The polygons of all base layers. */
    private static final class Polygons {
        private int count = 0;
        private final int[] layerOf = new int[MOST_POLYGONS];
        private final int[] corners = new int[MOST_POLYGONS];
        private final int[][] xs = new int[MOST_POLYGONS][MOST_CORNERS];
        private final int[][] ys = new int[MOST_POLYGONS][MOST_CORNERS];
        private final long[] flips = new long[SIDE + 1];

        boolean isFull() {
            return count >= MOST_POLYGONS;
        }

        boolean has(int polygon) {
            return polygon >= 0 && polygon < count;
        }

        boolean hasAllCorners(int polygon) {
            return corners[polygon] >= MOST_CORNERS;
        }

        int start(int layer) {
            int polygon = count;
            layerOf[polygon] = layer;
            corners[polygon] = 0;
            count++;
            return polygon;
        }

        void forget() {
            count = 0;
        }

        boolean extend(int polygon, int x, int y) {
            int place = corners[polygon];
            if (place > 0 && !differInOne(polygon, place - 1, x, y)) {
                return false;
            }
            xs[polygon][place] = x;
            ys[polygon][place] = y;
            corners[polygon] = place + 1;
            return true;
        }

        private boolean differInOne(int polygon, int place, int x, int y) {
            return (xs[polygon][place] != x) != (ys[polygon][place] != y);
        }

        private boolean isOpen(int polygon) {
            int last = corners[polygon] - 1;
            return last + 1 < FEWEST_CORNERS
                    || !differInOne(polygon, 0, xs[polygon][last], ys[polygon][last]);
        }

        void paint(int layer, long[] rows) {
            Arrays.fill(rows, 0L);
            for (int polygon = 0; polygon < count; polygon++) {
                if (layerOf[polygon] == layer && !isOpen(polygon)) {
                    paintOne(polygon, rows);
                }
            }
        }

        /** Each standing edge flips all squares left of it, in the rows along it. */
        private void paintOne(int polygon, long[] rows) {
            Arrays.fill(flips, 0L);
            int before = corners[polygon] - 1;
            for (int place = 0; place < corners[polygon]; place++) {
                int x = xs[polygon][place];
                if (x == xs[polygon][before]) {
                    flips[ys[polygon][before]] ^= Rows.leftOf(x);
                    flips[ys[polygon][place]] ^= Rows.leftOf(x);
                }
                before = place;
            }
            long row = 0L;
            for (int y = 0; y < SIDE; y++) {
                row ^= flips[y];
                rows[y] |= row;
            }
        }
    }

    /** What is done with single rows of bits, and with areas of 64 of them. */
    private static final class Rows {
        static long row(long[] rows, int y) {
            return y >= 0 && y < SIDE ? rows[y] : 0L;
        }

        static long leftOf(int x) {
            return x >= SIDE ? -1L : (1L << x) - 1L;
        }

        /** The first squares of the runs of a row. */
        static long starts(long row) {
            return row & ~(row << 1);
        }

        static int countRuns(long row) {
            return Long.bitCount(starts(row));
        }

        /** The run with the least x: adding its first square carries through it, and no farther. */
        static long firstRun(long row) {
            return row & ~(row + (row & -row));
        }

        /** How many squares without a bit come before the first one with a bit. */
        static int firstPlace(long row) {
            return Long.bitCount((row & -row) - 1L);
        }

        static int placeOf(long row, int k) {
            long left = row;
            for (int i = 0; i < k; i++) {
                left &= left - 1L;
            }
            return firstPlace(left);
        }

        static int runEnd(long row, int start) {
            return start + firstPlace(~(row >>> start));
        }

        static int countSquares(long[] rows) {
            int squares = 0;
            for (int y = 0; y < SIDE; y++) {
                squares += Long.bitCount(rows[y]);
            }
            return squares;
        }

        static void copy(long[] from, long[] into) {
            System.arraycopy(from, 0, into, 0, SIDE);
        }

        static void complement(long[] from, long[] into) {
            for (int y = 0; y < SIDE; y++) {
                into[y] = ~from[y];
            }
        }

        /** Grown or shrunk by one number in x and by another one in y. */
        static void resize(long[] from, long[] into, int byX, int byY, boolean grow) {
            copy(from, into);
            resizeAlongX(into, byX, grow);
            turn(into);
            resizeAlongX(into, byY, grow);
            turn(into);
        }

        private static void resizeAlongX(long[] rows, int by, boolean grow) {
            for (int y = 0; y < SIDE; y++) {
                rows[y] = grow ? widened(rows[y], by) : narrowed(rows[y], by);
            }
        }

        /**
         * A step is never more than one above what is done: a run cut off at the plane's border
         * has no more squares than that for certain, and a longer step would leave gaps.
         */
        static long widened(long row, int by) {
            long wide = row;
            int step = 1;
            for (int done = 0; done < by; done += step) {
                step = Math.min(done + 1, by - done);
                wide |= (wide << step) | (wide >>> step);
            }
            return wide;
        }

        static long narrowed(long row, int by) {
            long narrow = row;
            int step = 1;
            for (int done = 0; done < by; done += step) {
                step = Math.min(done + 1, by - done);
                narrow &= (narrow << step) & (narrow >>> step);
            }
            return narrow;
        }

        /** Makes x of y and y of x: swaps halves across, then quarters, down to squares. */
        static void turn(long[] rows) {
            long low = leftOf(SIDE / 2);
            for (int width = SIDE / 2; width > 0; width >>= 1) {
                for (int y = 0; y < SIDE; y++) {
                    if ((y & width) == 0) {
                        long swap = ((rows[y] >>> width) ^ rows[y | width]) & low;
                        rows[y] ^= swap << width;
                        rows[y | width] ^= swap;
                    }
                }
                low ^= low << (width >> 1);
            }
        }
    }

    /** Edges, boxes and corners, counted off line by line in their order. */
    private static final class Lines {
        private static long areaAbove(long[] rows, int y) {
            return Rows.row(rows, y) & ~Rows.row(rows, y - 1);
        }

        private static long areaBelow(long[] rows, int y) {
            return Rows.row(rows, y - 1) & ~Rows.row(rows, y);
        }

        private static long lyingStarts(long[] rows, int y) {
            return Rows.starts(areaAbove(rows, y)) | Rows.starts(areaBelow(rows, y));
        }

        static int countLying(long[] rows) {
            int edges = 0;
            for (int y = 0; y <= SIDE; y++) {
                edges += Long.bitCount(lyingStarts(rows, y));
            }
            return edges;
        }

        static int totalLength(long[] rows) {
            int length = 0;
            for (int y = 0; y <= SIDE; y++) {
                long row = Rows.row(rows, y);
                length += Long.bitCount(row ^ Rows.row(rows, y - 1));
                length += 2 * Rows.countRuns(row);
            }
            return length;
        }

        static int lyingFact(long[] rows, int k, int what) {
            int left = k;
            for (int y = 0; y <= SIDE && left >= 0; y++) {
                long starts = lyingStarts(rows, y);
                int edges = Long.bitCount(starts);
                if (left < edges) {
                    return lyingFactAt(rows, y, Rows.placeOf(starts, left), what);
                }
                left -= edges;
            }
            throw new IndexOutOfBoundsException("no such edge");
        }

        private static int lyingFactAt(long[] rows, int y, int x, int what) {
            long above = areaAbove(rows, y);
            boolean isAbove = ((above >>> x) & 1L) != 0;
            switch (what) {
                case LEAST_X:
                    return x;
                case GREATEST_X:
                    return Rows.runEnd(isAbove ? above : areaBelow(rows, y), x);
                case AREA_SIDE:
                    return isAbove ? 1 : -1;
                default:
                    return y;
            }
        }

        /** What to ask of an edge turned round the diagonal. */
        static int turnedFact(int what) {
            switch (what) {
                case LEAST_X:
                    return LEAST_Y;
                case LEAST_Y:
                    return LEAST_X;
                case GREATEST_X:
                    return GREATEST_Y;
                case GREATEST_Y:
                    return GREATEST_X;
                default:
                    return what;
            }
        }

        /** Between two lying edges all rows are the same: boxes begin where a row is another one. */
        static int boxFact(long[] rows, int k, int what) {
            int left = k;
            for (int y = 0; y < SIDE && left >= 0; y++) {
                if (rows[y] != Rows.row(rows, y - 1)) {
                    long starts = Rows.starts(rows[y]);
                    int boxes = Long.bitCount(starts);
                    if (left < boxes) {
                        return boxFactAt(rows, y, Rows.placeOf(starts, left), what);
                    }
                    left -= boxes;
                }
            }
            throw new IndexOutOfBoundsException("no such box");
        }

        private static int boxFactAt(long[] rows, int y, int x, int what) {
            switch (what) {
                case LEAST_X:
                    return x;
                case LEAST_Y:
                    return y;
                case GREATEST_X:
                    return Rows.runEnd(rows[y], x);
                default:
                    return sameRowsEnd(rows, y);
            }
        }

        private static int sameRowsEnd(long[] rows, int y) {
            int end = y + 1;
            while (end < SIDE && rows[end] == rows[y]) {
                end++;
            }
            return end;
        }

        static int cornerFact(long[] rows, int k, int axis) {
            int left = k;
            for (int y = 0; y <= SIDE && left >= 0; y++) {
                long below = Rows.row(rows, y - 1);
                long above = Rows.row(rows, y);
                long corners = cornersBetween(below, above);
                int within = Long.bitCount(corners);
                int all = (below ^ above) < 0 ? within + 1 : within;
                if (left < all) {
                    return axis == 1 ? y : left < within ? Rows.placeOf(corners, left) : SIDE;
                }
                left -= all;
            }
            throw new IndexOutOfBoundsException("no such corner");
        }

        /**
         * A point is a corner if a standing and a lying border end or go on there. The last point,
         * with x = 64, has no bit: it is one if the last squares of the two rows differ.
         */
        private static long cornersBetween(long below, long above) {
            long standing = (below ^ (below << 1)) | (above ^ (above << 1));
            long differ = below ^ above;
            return standing & (differ | (differ << 1));
        }
    }

    /**
     * The runs of squares in the rows of an area, joined to shapes and to nets. Runs are numbered
     * by y, then by x; the head of a shape or net is its run with the least number, and shapes are
     * numbered as their heads are.
     */
    private static final class Parts {
        private final long[] squares = new long[MOST_RUNS];
        private final int[] shapeHead = new int[MOST_RUNS];
        private final int[] netHead = new int[MOST_RUNS];
        private final int[] shapeOf = new int[MOST_RUNS];
        private final boolean[] marked = new boolean[MOST_RUNS];
        private final int[] rowStart = new int[SIDE + 1];
        private int runCount = 0;
        private int shapeCount = 0;

        void findShapes(long[] rows) {
            cutRuns(rows);
            joinRuns(rows, shapeHead, 0);
            shapeCount = 0;
            for (int run = 0; run < runCount; run++) {
                if (shapeHead[run] == run) {
                    shapeOf[run] = shapeCount;
                    shapeCount++;
                } else {
                    shapeOf[run] = shapeOf[shapeHead[run]];
                }
            }
        }

        /** To be called after findShapes, with the same rows. */
        void findNets(long[] rows) {
            joinRuns(rows, netHead, 1);
        }

        int countShapes() {
            return shapeCount;
        }

        int countNets() {
            int count = 0;
            for (int run = 0; run < runCount; run++) {
                if (netHead[run] == run) {
                    count++;
                }
            }
            return count;
        }

        int leastOfNet(int shape) {
            for (int run = 0; run < runCount; run++) {
                if (shapeOf[run] == shape) {
                    return shapeOf[netHead[run]];
                }
            }
            return NONE;
        }

        /** Marks the shapes that have a square in common with the rows given, and no others. */
        void markMeeting(long[] rows) {
            for (int shape = 0; shape < shapeCount; shape++) {
                marked[shape] = false;
            }
            for (int y = 0; y < SIDE; y++) {
                for (int run = rowStart[y]; run < rowStart[y + 1]; run++) {
                    if ((squares[run] & rows[y]) != 0) {
                        marked[shapeOf[run]] = true;
                    }
                }
            }
        }

        int markedShape(int k) {
            int left = k;
            for (int shape = 0; shape < shapeCount; shape++) {
                if (marked[shape]) {
                    if (left == 0) {
                        return shape;
                    }
                    left--;
                }
            }
            return NONE;
        }

        /** The squares of the shapes that are marked, or of those that are not. */
        void gather(boolean mark, long[] into) {
            for (int y = 0; y < SIDE; y++) {
                into[y] = 0L;
                for (int run = rowStart[y]; run < rowStart[y + 1]; run++) {
                    if (marked[shapeOf[run]] == mark) {
                        into[y] |= squares[run];
                    }
                }
            }
        }

        void copyShape(int shape, long[] into) {
            for (int y = 0; y < SIDE; y++) {
                into[y] = 0L;
                for (int run = rowStart[y]; run < rowStart[y + 1]; run++) {
                    if (shapeOf[run] == shape) {
                        into[y] |= squares[run];
                    }
                }
            }
        }

        private void cutRuns(long[] rows) {
            runCount = 0;
            for (int y = 0; y < SIDE; y++) {
                rowStart[y] = runCount;
                long left = rows[y];
                int end = Math.min(runCount + Rows.countRuns(left), MOST_RUNS);
                for (int run = runCount; run < end; run++) {
                    squares[run] = Rows.firstRun(left);
                    left ^= squares[run];
                }
                runCount = end;
            }
            rowStart[SIDE] = runCount;
        }

        /** Joins runs of neighbouring rows that are not farther than so many squares in x. */
        private void joinRuns(long[] rows, int[] head, int reach) {
            for (int run = 0; run < runCount; run++) {
                head[run] = run;
            }
            for (int y = 1; y < SIDE; y++) {
                for (int run = rowStart[y]; run < rowStart[y + 1]; run++) {
                    long contact = rows[y - 1] & Rows.widened(squares[run], reach);
                    joinContact(contact, rows[y - 1], rowStart[y - 1], run, head);
                }
            }
            // Heads go before what they lead, so here each one met is its own head already.
            for (int run = 0; run < runCount; run++) {
                head[run] = head[head[run]];
            }
        }

        /** Each run of the contact lies in a run of its own of the row below. */
        private static void joinContact(long contact, long below, int firstBelow, int run, int[] head) {
            long starts = Rows.starts(contact);
            for (int left = Long.bitCount(starts); left > 0; left--) {
                long start = starts & -starts;
                long upTo = start | (start - 1L);
                int runsUpTo = Long.bitCount(Rows.starts(below) & upTo);
                join(firstBelow + runsUpTo - 1, run, head);
                starts ^= start;
            }
        }

        private static void join(int one, int other, int[] head) {
            int a = headOf(one, head);
            int b = headOf(other, head);
            head[Math.max(a, b)] = Math.min(a, b);
        }

        /** Also shortens the way, so that long chains are not gone again. */
        private static int headOf(int run, int[] head) {
            int found = run;
            for (int steps = 0; steps < MOST_RUNS && head[found] != found; steps++) {
                found = head[found];
            }
            head[run] = found;
            return found;
        }
    }
}
