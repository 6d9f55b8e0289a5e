import java.util.List;
import java.util.Random;
import java.util.function.Function;

/** Whole lives: 512 calls of all kinds in any order, wrong ones among them, held against the model. */
public final class LifeTests {
    private static final int CALLS = 512;
    private static final int LIVES = 60;
    private static final int[] LAYERS = {1, 2, 3, 0, -1, Integer.MIN_VALUE, 65535, 65536, 65537, Integer.MAX_VALUE};
    private static final int[] WRONG = {-1, -2, 64, 65, 2048, 65536, Integer.MIN_VALUE, Integer.MAX_VALUE};
    private static final long[] FAR = {
        -1, 65, 1L << 32, (1L << 32) + 3, -(1L << 32), (1L << 63) + 5, Long.MAX_VALUE, Long.MIN_VALUE,
    };
    private static final Check CHECK = new Check("LifeTests");

    private final Random random;
    private final Used used;
    private final Due due;
    private final int start;
    private final int reach;

    private LifeTests(int seed) {
        random = new Random(seed);
        int layers = LAYERS[random.nextInt(seed % 2 == 0 ? 3 : LAYERS.length)];
        used = new Used(layers);
        due = new Due(layers);
        int[] reaches = {4, 8, 20, 64};
        reach = reaches[random.nextInt(reaches.length)];
        start = random.nextInt(64 - reach + 1);
        CHECK.about("life " + seed + " with " + layers + " layers");
    }

    public static void main(String[] args) {
        for (int seed = 0; seed < LIVES; seed++) {
            LifeTests life = new LifeTests(seed);
            for (int call = 0; call < CALLS; call++) {
                life.callOne();
            }
        }
        CHECK.about("");
        CHECK.end();
    }

    private void compare(String call, Function<EdgeSweeps, Object> made, String answer) {
        CHECK.text(call, used.ask(made), answer);
    }

    private void callOne() {
        int kind = random.nextInt(200);
        if (kind < 70) {
            draw();
        } else if (kind < 90) {
            make();
        } else if (kind < 197) {
            ask();
        } else if (kind == 197 && random.nextBoolean()) {
            compare("clear()", LifeTests::clear, due.clear());
        } else {
            int n = oneOf(64) + 1;
            compare("strips(" + n + ")", s -> s.strips(n), due.strips(n));
        }
    }

    private static Object clear(EdgeSweeps sweeps) {
        sweeps.clear();
        return "";
    }

    private void draw() {
        int last = due.polygons() - 1;
        if (last < 0 || isClosed(last) && last < 15 && random.nextInt(4) > 0 || random.nextInt(40) == 0) {
            int layer = oneOf(due.baseLayers());
            compare("polygon(" + layer + ")", s -> s.polygon(layer), due.polygon(layer));
            return;
        }
        int polygon = random.nextInt(8) > 0 ? last : oneOf(due.polygons());
        int[] next = nextCorner(polygon);
        long x = farAtTimes(next[0]);
        long y = farAtTimes(next[1]);
        compare("corner(" + polygon + ", " + x + ", " + y + ")", s -> s.corner(polygon, x, y), due.corner(polygon, x, y));
    }

    private boolean isClosed(int polygon) {
        List<int[]> corners = due.cornersOf(polygon);
        return corners.size() >= 4 && Model.inLine(corners.get(0), corners.get(corners.size() - 1));
    }

    /** Mostly one that is taken, and at times one that closes the polygon. */
    private int[] nextCorner(int polygon) {
        int[] next = {start + random.nextInt(reach + 1), start + random.nextInt(reach + 1)};
        if (polygon < 0 || polygon >= due.polygons() || due.cornersOf(polygon).isEmpty()) {
            return next;
        }
        List<int[]> corners = due.cornersOf(polygon);
        int kept = random.nextInt(10) == 0 ? random.nextInt(3) : corners.size() % 2;
        if (kept < 2) {
            next[kept] = corners.get(corners.size() - 1)[kept];
            boolean closes = corners.size() > 2 && random.nextInt(4) == 0;
            next[1 - kept] = closes ? corners.get(0)[1 - kept] : next[1 - kept];
        }
        return next;
    }

    private void make() {
        int a = layer();
        if (random.nextInt(3) > 0) {
            int what = oneOf(6);
            int b = layer();
            compare("op(" + what + ", " + a + ", " + b + ")", s -> s.op(what, a, b), due.op(what, a, b));
            return;
        }
        int far = random.nextInt(8) == 0 ? 64 : 4;
        long by = farAtTimes(random.nextInt(2 * far + 1) - far);
        boolean octagon = random.nextBoolean();
        compare("size(" + a + ", " + by + ", " + octagon + ")", s -> s.size(a, by, octagon), due.size(a, by, octagon));
    }

    private void ask() {
        int layer = layer();
        switch (random.nextInt(10)) {
            case 0 -> compare("shapes(" + layer + ")", s -> s.shapes(layer), due.shapes(layer));
            case 1 -> compare("nets(" + layer + ")", s -> s.nets(layer), due.nets(layer));
            case 2 -> askNetOf(layer);
            case 3 -> askIn(layer);
            case 4 -> askArea2(layer);
            case 5 -> askTouching(layer);
            case 6 -> askEdge(layer);
            case 7 -> askTrapezoid(layer);
            default -> askAt(layer);
        }
    }

    private void askNetOf(int layer) {
        int shape = oneOf(shapesOf(layer));
        compare("netOf(" + layer + ", " + shape + ")", s -> s.netOf(layer, shape), due.netOf(layer, shape));
    }

    private void askIn(int layer) {
        long x = farAtTimes(start - 1 + random.nextInt(reach + 3));
        long y = farAtTimes(start - 1 + random.nextInt(reach + 3));
        compare("in(" + layer + ", " + x + ", " + y + ")", s -> s.in(layer, x, y), due.in(layer, x, y));
    }

    private void askArea2(int layer) {
        int limb = oneOf(2);
        compare("area2(" + layer + ", " + limb + ")", s -> s.area2(layer, limb), due.area2(layer, limb));
    }

    private void askTouching(int a) {
        int b = layer();
        int k = oneOf(shapesOf(a));
        compare("touching(" + a + ", " + b + ", " + k + ")", s -> s.touching(a, b, k), due.touching(a, b, k));
    }

    private void askEdge(int layer) {
        int k = oneOf(isThere(layer) ? Model.edges(due.area(layer)).size() : 4);
        int what = oneOf(5);
        compare("edge(" + layer + ", " + k + ", " + what + ")", s -> s.edge(layer, k, what), due.edge(layer, k, what));
    }

    private void askTrapezoid(int layer) {
        int k = oneOf(isThere(layer) ? Model.boxes(due.area(layer)).size() : 4);
        int what = oneOf(4);
        compare("trapezoid(" + layer + ", " + k + ", " + what + ")", s -> s.trapezoid(layer, k, what),
                due.trapezoid(layer, k, what));
    }

    private void askAt(int layer) {
        int shape = oneOf(shapesOf(layer));
        int k = oneOf(isThere(layer) ? Model.corners(due.area(layer), shape).size() : 4);
        int axis = oneOf(2);
        compare("at(" + layer + ", " + shape + ", " + k + ", " + axis + ")", s -> s.at(layer, shape, k, axis),
                due.at(layer, shape, k, axis));
    }

    private boolean isThere(int layer) {
        return layer >= 0 && layer < due.allLayers();
    }

    private int shapesOf(int layer) {
        return isThere(layer) ? due.area(layer).shapes() : 1;
    }

    /** Mostly one that has squares, if some are found. */
    private int layer() {
        int found = oneOf(due.allLayers());
        for (int tries = 0; tries < 6 && isThere(found) && due.area(found).squares() == 0; tries++) {
            found = oneOf(due.allLayers());
        }
        return found;
    }

    /** One of so many from 0 on, near either end if they are very many; at times none of them. */
    private int oneOf(int count) {
        int chance = random.nextInt(80);
        if (chance == 0 || count == 0) {
            return WRONG[random.nextInt(WRONG.length)];
        }
        if (chance == 1) {
            return count;
        }
        if (count <= 100) {
            return random.nextInt(count);
        }
        int place = random.nextInt(3);
        return random.nextBoolean() ? place : count - 1 - place;
    }

    private long farAtTimes(long near) {
        return random.nextInt(50) == 0 ? FAR[random.nextInt(FAR.length)] : near;
    }
}
