import java.util.List;

/** What the document asks of each call, its refusals too: the answer, or "throws." and a name. */
final class Due {
    static final String NO_INDEX = "throws.IndexOutOfBoundsException";
    static final String NO_STATE = "throws.IllegalStateException";
    static final String NO_ARGUMENT = "throws.IllegalArgumentException";

    private final Model model;
    private int strips = 1;

    Due(int layers) {
        model = new Model(layers < 1 ? 1 : layers > 65536 ? 65536 : layers);
    }

    int baseLayers() {
        return model.layers;
    }

    int allLayers() {
        return model.allLayers();
    }

    int polygons() {
        return model.polygons.size();
    }

    List<int[]> cornersOf(int polygon) {
        return model.polygons.get(polygon);
    }

    Model.Area area(int layer) {
        return model.area(layer);
    }

    private boolean noLayer(int layer) {
        return layer < 0 || layer >= model.allLayers();
    }

    private boolean allMade() {
        return model.made.size() == 24;
    }

    private static boolean noneOf(int k, int count) {
        return k < 0 || k >= count;
    }

    String polygon(int layer) {
        if (noneOf(layer, model.layers)) {
            return NO_INDEX;
        }
        return model.polygons.size() == 16 ? NO_STATE : "" + model.polygon(layer);
    }

    String corner(int polygon, long x, long y) {
        if (noneOf(polygon, model.polygons.size())) {
            return NO_INDEX;
        }
        if (model.polygons.get(polygon).size() == 16) {
            return NO_STATE;
        }
        if (x < 0 || x > 64 || y < 0 || y > 64) {
            return NO_ARGUMENT;
        }
        return "" + model.corner(polygon, (int) x, (int) y);
    }

    String op(int what, int a, int b) {
        if (noLayer(a) || noLayer(b)) {
            return NO_INDEX;
        }
        if (allMade()) {
            return NO_STATE;
        }
        return noneOf(what, 6) ? NO_ARGUMENT : "" + model.op(what, a, b);
    }

    String size(int layer, long by, boolean octagon) {
        if (noLayer(layer)) {
            return NO_INDEX;
        }
        if (allMade()) {
            return NO_STATE;
        }
        boolean refused = by == 0 || by < -64 || by > 64;
        return refused ? NO_ARGUMENT : "" + model.size(layer, (int) by, octagon);
    }

    String shapes(int layer) {
        return noLayer(layer) ? NO_INDEX : "" + model.area(layer).shapes();
    }

    String at(int layer, int shape, int k, int axis) {
        if (noLayer(layer) || noneOf(axis, 2) || noneOf(shape, model.area(layer).shapes())) {
            return NO_INDEX;
        }
        List<int[]> corners = Model.corners(model.area(layer), shape);
        return noneOf(k, corners.size()) ? NO_INDEX : "" + corners.get(k)[axis];
    }

    String in(int layer, long x, long y) {
        if (noLayer(layer)) {
            return NO_INDEX;
        }
        boolean onPlane = x >= 0 && x < 64 && y >= 0 && y < 64;
        return "" + (onPlane && model.area(layer).at((int) x, (int) y));
    }

    String area2(int layer, int limb) {
        if (noLayer(layer) || noneOf(limb, 2)) {
            return NO_INDEX;
        }
        if (limb == 0) {
            return "" + 2 * model.area(layer).squares();
        }
        int length = 0;
        for (int[] edge : Model.edges(model.area(layer))) {
            length += edge[2] - edge[0] + edge[3] - edge[1];
        }
        return "" + length;
    }

    String touching(int a, int b, int k) {
        if (noLayer(a) || noLayer(b) || k < 0) {
            return NO_INDEX;
        }
        boolean[] touches = Model.touches(model.area(a), model.area(b));
        int before = 0;
        for (int shape = 0; shape < touches.length; shape++) {
            if (touches[shape] && before++ == k) {
                return "" + shape;
            }
        }
        return "-1";
    }

    String nets(int layer) {
        if (noLayer(layer)) {
            return NO_INDEX;
        }
        int[] least = Model.nets(model.area(layer));
        int count = 0;
        for (int shape = 0; shape < least.length; shape++) {
            count += least[shape] == shape ? 1 : 0;
        }
        return "" + count;
    }

    String netOf(int layer, int shape) {
        if (noLayer(layer) || noneOf(shape, model.area(layer).shapes())) {
            return NO_INDEX;
        }
        return "" + Model.nets(model.area(layer))[shape];
    }

    String strips(int n) {
        if (n < 1 || n > 64) {
            return NO_INDEX;
        }
        int before = strips;
        strips = n;
        return "" + before;
    }

    String edge(int layer, int k, int what) {
        return noLayer(layer) ? NO_INDEX : fact(Model.edges(model.area(layer)), k, what, 5);
    }

    String trapezoid(int layer, int k, int what) {
        return noLayer(layer) ? NO_INDEX : fact(Model.boxes(model.area(layer)), k, what, 4);
    }

    private static String fact(List<int[]> all, int k, int what, int facts) {
        return noneOf(k, all.size()) || noneOf(what, facts) ? NO_INDEX : "" + all.get(k)[what];
    }

    String clear() {
        model.clear();
        return "";
    }
}
