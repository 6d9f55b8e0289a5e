import java.util.ArrayList;
import java.util.List;
import java.util.Random;
import java.util.function.Consumer;

/** Many drawn planes, each held against the model, answer by answer. */
public final class ModelTests {
    private static final int CALLS = 512;
    private static final int PLANES = 120;
    private static final Check CHECK = new Check("ModelTests");

    private final Random random;
    private final int reach;
    private final int start;
    private final int layers;
    private final boolean busy;
    private final Model model;
    private final List<Consumer<EdgeSweeps>> changes = new ArrayList<>();
    private EdgeSweeps sweeps;
    private int calls = 0;

    private ModelTests(long seed) {
        random = new Random(seed);
        busy = seed % 4 == 3;
        int[] reaches = {5, 9, 16, 64};
        reach = reaches[random.nextInt(reaches.length)];
        int[] starts = {0, (64 - reach) / 2, 64 - reach};
        start = starts[random.nextInt(starts.length)];
        layers = 1 + random.nextInt(3);
        model = new Model(layers);
        sweeps = new EdgeSweeps(layers);
    }

    public static void main(String[] args) {
        for (int seed = 0; seed < PLANES; seed++) {
            ModelTests test = new ModelTests(seed);
            test.drawPolygons();
            test.makeLayers();
            test.compareLayers();
            if (seed % 4 == 0) {
                test.change(EdgeSweeps::clear);
                test.model.clear();
                test.drawPolygons();
                test.makeLayers();
                test.compareLayers();
            }
        }
        CHECK.end();
    }

    /** An object has 512 calls: before it has no more, a new one gets the same changes. */
    private EdgeSweeps next() {
        if (calls >= CALLS) {
            sweeps = new EdgeSweeps(layers);
            for (Consumer<EdgeSweeps> change : changes) {
                change.accept(sweeps);
            }
            calls = changes.size();
        }
        calls++;
        return sweeps;
    }

    private void change(Consumer<EdgeSweeps> change) {
        change.accept(next());
        changes.add(change);
    }

    private void drawPolygons() {
        int polygons = busy ? 16 : 1 + random.nextInt(8);
        for (int i = 0; i < polygons; i++) {
            int layer = random.nextInt(layers);
            int polygon = model.polygon(layer);
            change(s -> CHECK.same("polygon", s.polygon(layer), polygon));
            drawCorners(polygon);
        }
    }

    private void drawCorners(int polygon) {
        int x = start + random.nextInt(reach + 1);
        int y = start + random.nextInt(reach + 1);
        int corners = busy ? 14 : random.nextInt(12);
        addCorner(polygon, x, y);
        List<int[]> path = model.polygons.get(polygon);
        for (int i = 0; i < corners && path.size() < 14; i++) {
            int way = random.nextInt(12);
            boolean alongX = way == 0 ? random.nextBoolean() : i % 2 == 0;
            int to = start + random.nextInt(reach + 1);
            x = alongX || way == 1 ? to : x;
            y = alongX ? y : start + random.nextInt(reach + 1);
            addCorner(polygon, x, y);
            x = path.get(path.size() - 1)[0];
            y = path.get(path.size() - 1)[1];
        }
        if (random.nextInt(8) > 0) {
            addCorner(polygon, path.get(0)[0], y);
        }
    }

    private void addCorner(int polygon, int x, int y) {
        boolean due = model.corner(polygon, x, y);
        change(s -> CHECK.same("corner", s.corner(polygon, x, y) ? 1 : 0, due ? 1 : 0));
    }

    private void makeLayers() {
        int count = busy ? 8 + random.nextInt(17) : random.nextInt(12);
        for (int i = 0; i < count; i++) {
            int a = random.nextInt(model.allLayers());
            int b = random.nextInt(model.allLayers());
            if (random.nextInt(busy ? 12 : 5) < (busy ? 11 : 3)) {
                int what = busy && random.nextInt(3) > 0 ? 3 : random.nextInt(6);
                int due = model.op(what, a, b);
                change(s -> CHECK.same("op", s.op(what, a, b), due));
            } else {
                int far = random.nextInt(6) == 0 ? 64 : 4;
                int by = (1 + random.nextInt(far)) * (random.nextBoolean() ? 1 : -1);
                boolean octagon = random.nextBoolean();
                int due = model.size(a, by, octagon);
                change(s -> CHECK.same("size", s.size(a, by, octagon), due));
            }
        }
    }

    private void compareLayers() {
        for (int layer = 0; layer < model.allLayers(); layer++) {
            Model.Area area = model.area(layer);
            compareSquares(layer, area);
            compareShapes(layer, area);
            compareEdges(layer, area);
            compareTouching(layer, random.nextInt(model.allLayers()));
            int strips = 1 + random.nextInt(64);
            change(s -> s.strips(strips));
        }
        int none = model.allLayers();
        CHECK.noIndex("one layer more", () -> next().shapes(none));
    }

    private void compareSquares(int layer, Model.Area area) {
        for (int i = 0; i < 40; i++) {
            int x = start + random.nextInt(reach + 3) - 1;
            int y = start + random.nextInt(reach + 3) - 1;
            CHECK.same("in", next().in(layer, x, y) ? 1 : 0, area.at(x, y) ? 1 : 0);
        }
        CHECK.same("squares", next().area2(layer, 0), 2 * area.squares());
    }

    private void compareShapes(int layer, Model.Area area) {
        int[] nets = Model.nets(area);
        int count = 0;
        CHECK.same("shapes", next().shapes(layer), area.shapes());
        for (int shape = 0; shape < area.shapes(); shape++) {
            int asked = shape;
            count += nets[shape] == shape ? 1 : 0;
            CHECK.same("netOf", next().netOf(layer, shape), nets[shape]);
            List<int[]> corners = Model.corners(area, shape);
            for (int k = 0; k < corners.size(); k++) {
                int axis = random.nextInt(2);
                CHECK.same("at", next().at(layer, shape, k, axis), corners.get(k)[axis]);
            }
            CHECK.noIndex("one corner more", () -> next().at(layer, asked, corners.size(), 0));
        }
        CHECK.same("nets", next().nets(layer), count);
        CHECK.noIndex("one shape more", () -> next().at(layer, area.shapes(), 0, 0));
        CHECK.noIndex("a net more", () -> next().netOf(layer, area.shapes()));
    }

    private void compareEdges(int layer, Model.Area area) {
        List<int[]> edges = Model.edges(area);
        int length = 0;
        for (int k = 0; k < edges.size(); k++) {
            int[] edge = edges.get(k);
            length += edge[2] - edge[0] + edge[3] - edge[1];
            for (int what = 0; what < 5; what++) {
                CHECK.same("edge", next().edge(layer, k, what), edge[what]);
            }
        }
        CHECK.same("length", next().area2(layer, 1), length);
        CHECK.noIndex("one edge more", () -> next().edge(layer, edges.size(), 0));
        List<int[]> boxes = Model.boxes(area);
        for (int k = 0; k < boxes.size(); k++) {
            for (int what = 0; what < 4; what++) {
                CHECK.same("trapezoid", next().trapezoid(layer, k, what), boxes.get(k)[what]);
            }
        }
        CHECK.noIndex("one box more", () -> next().trapezoid(layer, boxes.size(), 0));
    }

    private void compareTouching(int a, int b) {
        boolean[] touches = Model.touches(model.area(a), model.area(b));
        int k = 0;
        for (int shape = 0; shape < touches.length; shape++) {
            if (touches[shape]) {
                CHECK.same("touching", next().touching(a, b, k), shape);
                k++;
            }
        }
        CHECK.same("no more touching", next().touching(a, b, k), EdgeSweeps.NONE);
    }
}
