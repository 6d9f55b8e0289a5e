import java.util.function.Function;

/** An object and how many calls it has had: what it answers after the 512th is free. */
final class Used {
    private static final int CALLS = 512;

    private final EdgeSweeps sweeps;
    private int calls = 0;

    Used(int layers) {
        sweeps = new EdgeSweeps(layers);
    }

    /** The answer, or the exception's name behind "throws.". */
    String ask(Function<EdgeSweeps, Object> call) {
        calls++;
        if (calls > CALLS) {
            throw new AssertionError("the test has more than 512 calls");
        }
        try {
            return String.valueOf(call.apply(sweeps));
        } catch (RuntimeException e) {
            return "throws." + e.getClass().getSimpleName();
        }
    }

    void box(int layer, int polygon, long x, long y, long toX, long toY) {
        ask(s -> s.polygon(layer));
        ask(s -> s.corner(polygon, x, y));
        ask(s -> s.corner(polygon, toX, y));
        ask(s -> s.corner(polygon, toX, toY));
        ask(s -> s.corner(polygon, x, toY));
    }

    void clear() {
        ask(s -> {
            s.clear();
            return "";
        });
    }

    /** What can be seen of the state; the calls at its end change it, to see what lies deeper. */
    String look() {
        StringBuilder seen = new StringBuilder();
        String shapes = ask(s -> s.shapes(0));
        for (int layer = 0; !shapes.startsWith("throws."); layer++) {
            int asked = layer;
            seen.append(" layer ").append(shapes);
            note(seen, s -> s.area2(asked, 0));
            note(seen, s -> s.area2(asked, 1));
            note(seen, s -> s.nets(asked));
            note(seen, s -> s.touching(asked, 0, 0));
            note(seen, s -> s.at(asked, 0, 1, 0));
            note(seen, s -> s.edge(asked, 1, 1));
            note(seen, s -> s.trapezoid(asked, 0, 3));
            shapes = ask(s -> s.shapes(asked + 1));
        }
        seen.append(" last");
        for (int polygon = 0; polygon < 17; polygon++) {
            int asked = polygon;
            note(seen, s -> s.corner(asked, 0, 33));
            note(seen, s -> s.corner(asked, 33, 33));
        }
        note(seen, s -> s.area2(0, 0));
        note(seen, s -> s.area2(1, 0));
        note(seen, s -> s.polygon(1));
        note(seen, s -> s.op(0, 0, 1));
        note(seen, s -> s.size(0, 1, false));
        note(seen, s -> s.strips(1));
        return seen.toString();
    }

    private void note(StringBuilder seen, Function<EdgeSweeps, Object> call) {
        seen.append(' ').append(ask(call));
    }
}
