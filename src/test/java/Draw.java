/** Draws on layers through the class's own calls. */
final class Draw {
    private Draw() {
    }

    /** A new polygon with corners x, y, x, y, ..; all of them must be taken. */
    static int path(EdgeSweeps sweeps, int layer, long... xy) {
        int polygon = sweeps.polygon(layer);
        for (int i = 0; i + 1 < xy.length; i += 2) {
            if (!sweeps.corner(polygon, xy[i], xy[i + 1])) {
                throw new AssertionError("a corner of the test's path was not taken");
            }
        }
        return polygon;
    }

    static int box(EdgeSweeps sweeps, int layer, long x, long y, long toX, long toY) {
        return path(sweeps, layer, x, y, toX, y, toX, toY, x, toY);
    }

    /** A box for each run of '#'; the first row given is the one with the greatest y. */
    static void picture(EdgeSweeps sweeps, int layer, int x, int y, String... rows) {
        for (int i = 0; i < rows.length; i++) {
            String row = rows[rows.length - 1 - i] + ".";
            for (int from = row.indexOf('#'); from >= 0;) {
                int to = row.indexOf('.', from);
                box(sweeps, layer, x + from, y + i, x + to, y + i + 1);
                from = row.indexOf('#', to);
            }
        }
    }

    /** An object with one base layer that has the picture. */
    static EdgeSweeps pictured(int x, int y, String... rows) {
        EdgeSweeps sweeps = new EdgeSweeps(1);
        picture(sweeps, 0, x, y, rows);
        return sweeps;
    }

    /** An object with one base layer that is all of the plane. */
    static EdgeSweeps plane() {
        EdgeSweeps sweeps = new EdgeSweeps(1);
        box(sweeps, 0, 0, 0, 64, 64);
        return sweeps;
    }

    /** So many base layers, of which the first and the last one have all squares. */
    static EdgeSweeps onEnds(int layers) {
        EdgeSweeps sweeps = new EdgeSweeps(layers);
        box(sweeps, 0, 0, 0, 64, 64);
        box(sweeps, layers - 1, 0, 0, 64, 64);
        return sweeps;
    }

    /** Every second column of the plane from one x on, four to a polygon. */
    static void columns(EdgeSweeps sweeps, int layer, int from) {
        for (int x = from; x < 64; x += 8) {
            path(sweeps, layer, x, 0, x, 64, x + 1, 64, x + 1, 0, x + 2, 0, x + 2, 64, x + 3, 64,
                    x + 3, 0, x + 4, 0, x + 4, 64, x + 5, 64, x + 5, 0, x + 6, 0, x + 6, 64,
                    x + 7, 64, x + 7, 0);
        }
    }

    /** Every second row of the plane from one y on, four to a polygon. */
    static void rows(EdgeSweeps sweeps, int layer, int from) {
        for (int y = from; y < 64; y += 8) {
            path(sweeps, layer, 0, y, 64, y, 64, y + 1, 0, y + 1, 0, y + 2, 64, y + 2, 64, y + 3,
                    0, y + 3, 0, y + 4, 64, y + 4, 64, y + 5, 0, y + 5, 0, y + 6, 64, y + 6,
                    64, y + 7, 0, y + 7);
        }
    }

    /** Layer 0 gets columns, layer 1 rows; layer 2 is the checkerboard of 2048 squares. */
    static EdgeSweeps checkerboard() {
        EdgeSweeps sweeps = new EdgeSweeps(2);
        columns(sweeps, 0, 0);
        rows(sweeps, 1, 0);
        sweeps.op(3, 0, 1);
        return sweeps;
    }
}
