import java.util.ArrayList;
import java.util.Arrays;
import java.util.List;

/** The document's terms square by square, as plainly as can be, to hold the class against. */
final class Model {
    static final int SIDE = 64;

    /** An area: its squares, and what hangs together in it. */
    static final class Area {
        final boolean[][] has = new boolean[SIDE][SIDE];
        private int[][] shapeOf;
        private int shapes;

        boolean at(int x, int y) {
            return x >= 0 && x < SIDE && y >= 0 && y < SIDE && has[x][y];
        }

        int squares() {
            int count = 0;
            for (int x = 0; x < SIDE; x++) {
                for (int y = 0; y < SIDE; y++) {
                    count += has[x][y] ? 1 : 0;
                }
            }
            return count;
        }

        int shapes() {
            label();
            return shapes;
        }

        /** The number of the shape of a square, -1 if there is none. */
        int shapeAt(int x, int y) {
            label();
            return at(x, y) ? shapeOf[x][y] : -1;
        }

        private void label() {
            if (shapeOf != null) {
                return;
            }
            shapeOf = new int[SIDE][SIDE];
            for (int[] column : shapeOf) {
                Arrays.fill(column, -1);
            }
            shapes = 0;
            for (int y = 0; y < SIDE; y++) {
                for (int x = 0; x < SIDE; x++) {
                    if (has[x][y] && shapeOf[x][y] < 0) {
                        flood(x, y, shapes++);
                    }
                }
            }
        }

        private void flood(int fromX, int fromY, int number) {
            List<int[]> open = new ArrayList<>();
            open.add(new int[] {fromX, fromY});
            while (!open.isEmpty()) {
                int[] square = open.remove(open.size() - 1);
                int x = square[0];
                int y = square[1];
                if (at(x, y) && shapeOf[x][y] < 0) {
                    shapeOf[x][y] = number;
                    open.add(new int[] {x + 1, y});
                    open.add(new int[] {x - 1, y});
                    open.add(new int[] {x, y + 1});
                    open.add(new int[] {x, y - 1});
                }
            }
        }
    }

    final int layers;
    final List<Integer> polygonLayers = new ArrayList<>();
    final List<List<int[]>> polygons = new ArrayList<>();
    final List<Area> made = new ArrayList<>();

    Model(int layers) {
        this.layers = layers;
    }

    int allLayers() {
        return layers + made.size();
    }

    void clear() {
        polygonLayers.clear();
        polygons.clear();
        made.clear();
    }

    int polygon(int layer) {
        polygonLayers.add(layer);
        polygons.add(new ArrayList<>());
        return polygons.size() - 1;
    }

    boolean corner(int polygon, int x, int y) {
        List<int[]> corners = polygons.get(polygon);
        int[] next = {x, y};
        if (!corners.isEmpty() && !inLine(corners.get(corners.size() - 1), next)) {
            return false;
        }
        corners.add(next);
        return true;
    }

    static boolean inLine(int[] one, int[] other) {
        int differ = (one[0] != other[0] ? 1 : 0) + (one[1] != other[1] ? 1 : 0);
        return differ == 1;
    }

    Area area(int layer) {
        if (layer >= layers) {
            return made.get(layer - layers);
        }
        Area area = new Area();
        for (int i = 0; i < polygons.size(); i++) {
            List<int[]> corners = polygons.get(i);
            int count = corners.size();
            if (polygonLayers.get(i) == layer && count >= 4
                    && inLine(corners.get(0), corners.get(count - 1))) {
                add(area, corners);
            }
        }
        return area;
    }

    private static void add(Area area, List<int[]> corners) {
        for (int x = 0; x < SIDE; x++) {
            for (int y = 0; y < SIDE; y++) {
                int met = 0;
                for (int i = 0; i < corners.size(); i++) {
                    int[] from = corners.get(i);
                    int[] to = corners.get((i + 1) % corners.size());
                    boolean right = from[0] == to[0] && from[0] > x + 0.5;
                    double low = Math.min(from[1], to[1]);
                    double high = Math.max(from[1], to[1]);
                    met += right && low < y + 0.5 && y + 0.5 < high ? 1 : 0;
                }
                area.has[x][y] |= met % 2 == 1;
            }
        }
    }

    int op(int what, int a, int b) {
        Area left = area(a);
        Area right = area(b);
        Area result = new Area();
        boolean[] inside = new boolean[left.shapes()];
        Arrays.fill(inside, true);
        boolean[] touches = touches(left, right);
        for (int x = 0; x < SIDE; x++) {
            for (int y = 0; y < SIDE; y++) {
                if (left.has[x][y] && !right.has[x][y]) {
                    inside[left.shapeAt(x, y)] = false;
                }
            }
        }
        for (int x = 0; x < SIDE; x++) {
            for (int y = 0; y < SIDE; y++) {
                boolean one = left.has[x][y];
                boolean other = right.has[x][y];
                boolean[] all = {
                    one || other, one && other, one && !other, one != other,
                    one && inside[left.shapeAt(x, y)], one && touches[left.shapeAt(x, y)]};
                result.has[x][y] = all[what];
            }
        }
        made.add(result);
        return allLayers() - 1;
    }

    static boolean[] touches(Area left, Area right) {
        boolean[] touches = new boolean[left.shapes()];
        for (int x = 0; x < SIDE; x++) {
            for (int y = 0; y < SIDE; y++) {
                for (int near = 0; near < 9; near++) {
                    if (left.has[x][y] && right.at(x + near % 3 - 1, y + near / 3 - 1)) {
                        touches[left.shapeAt(x, y)] = true;
                    }
                }
            }
        }
        return touches;
    }

    int size(int layer, int by, boolean octagon) {
        Area area = area(layer);
        Area result = new Area();
        for (int x = 0; x < SIDE; x++) {
            for (int y = 0; y < SIDE; y++) {
                result.has[x][y] = sized(area, x, y, by, octagon);
            }
        }
        made.add(result);
        return allLayers() - 1;
    }

    private static boolean sized(Area area, int x, int y, int by, boolean octagon) {
        int far = Math.abs(by);
        for (int dx = -far; dx <= far; dx++) {
            for (int dy = -far; dy <= far; dy++) {
                boolean round = !octagon || Math.abs(dx) <= far / 2 || Math.abs(dy) <= far / 2;
                if (round && area.at(x + dx, y + dy) == by > 0) {
                    return by > 0;
                }
            }
        }
        return by < 0;
    }

    /** For each shape the least one of its net. */
    static int[] nets(Area area) {
        int[] least = new int[area.shapes()];
        for (int i = 0; i < least.length; i++) {
            least[i] = i;
        }
        boolean changed = true;
        while (changed) {
            changed = false;
            for (int x = 0; x < SIDE; x++) {
                for (int y = 0; y < SIDE; y++) {
                    for (int near = 0; near < 9; near++) {
                        int one = area.shapeAt(x, y);
                        int other = area.shapeAt(x + near % 3 - 1, y + near / 3 - 1);
                        if (one >= 0 && other >= 0 && least[one] > least[other]) {
                            least[one] = least[other];
                            changed = true;
                        }
                    }
                }
            }
        }
        return least;
    }

    static List<int[]> corners(Area area, int shape) {
        List<int[]> corners = new ArrayList<>();
        for (int y = 0; y <= SIDE; y++) {
            for (int x = 0; x <= SIDE; x++) {
                boolean a = area.shapeAt(x - 1, y - 1) == shape;
                boolean b = area.shapeAt(x, y - 1) == shape;
                boolean c = area.shapeAt(x - 1, y) == shape;
                boolean d = area.shapeAt(x, y) == shape;
                int count = (a ? 1 : 0) + (b ? 1 : 0) + (c ? 1 : 0) + (d ? 1 : 0);
                if (count == 1 || count == 3 || count == 2 && a == d) {
                    corners.add(new int[] {x, y});
                }
            }
        }
        return corners;
    }

    /** Least x, least y, greatest x, greatest y, side. */
    static List<int[]> edges(Area area) {
        List<int[]> edges = new ArrayList<>();
        for (int y = 0; y <= SIDE; y++) {
            int before = 0;
            for (int x = 0; x < SIDE; x++) {
                int side = (area.at(x, y) ? 1 : 0) - (area.at(x, y - 1) ? 1 : 0);
                if (side != 0 && side == before) {
                    edges.get(edges.size() - 1)[2] = x + 1;
                } else if (side != 0) {
                    edges.add(new int[] {x, y, x + 1, y, side});
                }
                before = side;
            }
        }
        for (int x = 0; x <= SIDE; x++) {
            int before = 0;
            for (int y = 0; y < SIDE; y++) {
                int side = (area.at(x, y) ? 1 : 0) - (area.at(x - 1, y) ? 1 : 0);
                if (side != 0 && side == before) {
                    edges.get(edges.size() - 1)[3] = y + 1;
                } else if (side != 0) {
                    edges.add(new int[] {x, y, x, y + 1, side});
                }
                before = side;
            }
        }
        return edges;
    }

    /** Least x, least y, greatest x, greatest y. */
    static List<int[]> boxes(Area area) {
        boolean[] cut = new boolean[SIDE + 1];
        for (int[] edge : edges(area)) {
            if (edge[1] == edge[3]) {
                cut[edge[1]] = true;
            }
        }
        List<int[]> boxes = new ArrayList<>();
        int low = -1;
        for (int y = 0; y <= SIDE; y++) {
            if (cut[y]) {
                for (int x = 0; low >= 0 && x < SIDE; x++) {
                    if (area.at(x, low) && area.at(x - 1, low)) {
                        boxes.get(boxes.size() - 1)[2] = x + 1;
                    } else if (area.at(x, low)) {
                        boxes.add(new int[] {x, low, x + 1, y});
                    }
                }
                low = y;
            }
        }
        return boxes;
    }
}
