import java.util.function.IntToLongFunction;

/** Reads out all corners, edges, boxes or such of a layer, up to the first that is not there. */
final class Seen {
    private static final int MOST = 10000;

    private Seen() {
    }

    /** x,y of each corner of a shape. */
    static String corners(EdgeSweeps sweeps, int layer, int shape) {
        return all(k -> sweeps.at(layer, shape, k, 0), k -> sweeps.at(layer, shape, k, 1));
    }

    /** Least x, least y, greatest x, greatest y, side of each edge. */
    static String edges(EdgeSweeps sweeps, int layer) {
        return all(k -> sweeps.edge(layer, k, 0), k -> sweeps.edge(layer, k, 1),
                k -> sweeps.edge(layer, k, 2), k -> sweeps.edge(layer, k, 3),
                k -> sweeps.edge(layer, k, 4));
    }

    /** Least x, least y, greatest x, greatest y of each box. */
    static String boxes(EdgeSweeps sweeps, int layer) {
        return all(k -> sweeps.trapezoid(layer, k, 0), k -> sweeps.trapezoid(layer, k, 1),
                k -> sweeps.trapezoid(layer, k, 2), k -> sweeps.trapezoid(layer, k, 3));
    }

    static String nets(EdgeSweeps sweeps, int layer) {
        return all(k -> sweeps.netOf(layer, k));
    }

    /** The shapes of one layer that touch another one. */
    static String touching(EdgeSweeps sweeps, int a, int b) {
        StringBuilder seen = new StringBuilder();
        int shape = sweeps.touching(a, b, 0);
        for (int k = 1; shape != EdgeSweeps.NONE && k < MOST; k++) {
            seen.append(seen.length() > 0 ? " " : "").append(shape);
            shape = sweeps.touching(a, b, k);
        }
        return seen.toString();
    }

    /** The squares from (x, y) on, the row with the greatest y first. */
    static String squares(EdgeSweeps sweeps, int layer, int x, int y, int width, int height) {
        StringBuilder seen = new StringBuilder();
        for (int up = height - 1; up >= 0; up--) {
            for (int right = 0; right < width; right++) {
                seen.append(sweeps.in(layer, x + right, y + up) ? '#' : '.');
            }
            seen.append(up > 0 ? "/" : "");
        }
        return seen.toString();
    }

    private static String all(IntToLongFunction... facts) {
        StringBuilder seen = new StringBuilder();
        try {
            for (int k = 0; k < MOST; k++) {
                StringBuilder one = new StringBuilder();
                for (IntToLongFunction fact : facts) {
                    one.append(one.length() > 0 ? "," : "").append(fact.applyAsLong(k));
                }
                seen.append(seen.length() > 0 ? " " : "").append(one);
            }
        } catch (IndexOutOfBoundsException e) {
            return seen.toString();
        }
        return seen + " and no end";
    }
}
