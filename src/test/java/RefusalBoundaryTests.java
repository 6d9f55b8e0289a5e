import java.util.ArrayList;
import java.util.List;
import java.util.function.Function;

/** The sentences of "Terms" on refused calls, tried on objects that are new, drawn, full, cleared. */
public final class RefusalBoundaryTests {
    private static final Check CHECK = new Check("RefusalBoundaryTests");
    private static final int LOW = Integer.MIN_VALUE;
    private static final int HIGH = Integer.MAX_VALUE;
    private static final int BASE = 2;

    public static void main(String[] args) throws Exception {
        Boundaries.run(RefusalBoundaryTests.class, CHECK, args);
    }

    /** What the refusals hang on. */
    private enum State {
        NEW(0, 0, -1), DRAWN(4, 3, -1), ALL_BUT_FULL(15, 23, -1), FULL(16, 24, 15), CLEARED(0, 0, -1),
        DRAWN_AGAIN(1, 1, -1);

        final int polygons;
        final int made;
        /** The polygon with sixteen corners, -1 if there is none. */
        final int full;

        State(int polygons, int made, int full) {
            this.polygons = polygons;
            this.made = made;
            this.full = full;
        }

        int layers() {
            return BASE + made;
        }

        boolean isFull() {
            return made == 24;
        }

        Used make() {
            Used used = new Used(BASE);
            if (this == DRAWN) {
                drawSome(used);
            } else if (this == ALL_BUT_FULL) {
                draw(used, 15, 23);
            } else if (this != NEW) {
                draw(used, 15, 24);
                sixteenCorners(used);
                used.ask(s -> s.strips(7));
            }
            if (this == CLEARED || this == DRAWN_AGAIN) {
                used.clear();
            }
            if (this == DRAWN_AGAIN) {
                used.box(0, 0, 30, 30, 40, 33);
                used.ask(s -> s.size(0, -1, true));
            }
            return used;
        }

        /** A box, a ring's outside, a polygon of one corner and one of none. */
        private static void drawSome(Used used) {
            used.box(0, 0, 1, 1, 5, 5);
            used.box(1, 1, 0, 0, 64, 64);
            used.ask(s -> s.polygon(0));
            used.ask(s -> s.corner(2, 33, 0));
            used.ask(s -> s.polygon(1));
            used.ask(s -> s.op(2, 1, 0));
            used.ask(s -> s.size(0, 2, true));
            used.ask(s -> s.op(3, 3, 2));
            used.ask(s -> s.strips(64));
        }

        private static void draw(Used used, int polygons, int made) {
            for (int i = 0; i < polygons; i++) {
                used.box(i % 2, i, 4 * i, 4 * i, 4 * i + 3, 4 * i + 3);
            }
            for (int i = 0; i < made; i++) {
                int by = i % 5 + 1;
                int before = BASE + i - 1;
                used.ask(i % 2 == 0 ? s -> s.size(0, by, by % 2 == 0) : s -> s.op(by - 1, 1, before));
            }
        }

        private static void sixteenCorners(Used used) {
            used.ask(s -> s.polygon(0));
            for (int i = 0; i < 8; i++) {
                int y = i;
                used.ask(s -> s.corner(15, y % 2 == 0 ? 60 : 64, y));
                used.ask(s -> s.corner(15, y % 2 == 0 ? 64 : 60, y));
            }
        }
    }

    /** A call that is refused, and how. */
    private static final class Refused {
        final String name;
        final String due;
        final Function<EdgeSweeps, Object> call;

        Refused(String name, String due, Function<EdgeSweeps, Object> call) {
            this.name = name;
            this.due = "throws." + due;
            this.call = call;
        }
    }

    private static final String INDEX = "IndexOutOfBoundsException";
    private static final String STATE = "IllegalStateException";
    private static final String ARGUMENT = "IllegalArgumentException";

    private static void add(List<Refused> all, String name, String due, Function<EdgeSweeps, Object> call) {
        all.add(new Refused(name, due, call));
    }

    private static int[] noLayers(State state) {
        return new int[] {-1, state.layers(), LOW, HIGH};
    }

    /** Where one exception alone would do. */
    private static List<Refused> plainRefusals(State state) {
        List<Refused> all = new ArrayList<>();
        for (int layer : noLayers(state)) {
            addOfLayer(all, layer);
        }
        addOfThings(all);
        addOfPolygons(all, state);
        addOfMakers(all, state);
        return all;
    }

    private static void addOfLayer(List<Refused> all, int layer) {
        add(all, "polygon of layer " + layer, INDEX, s -> s.polygon(layer));
        add(all, "op, a is " + layer, INDEX, s -> s.op(0, layer, 0));
        add(all, "op, b is " + layer, INDEX, s -> s.op(5, 0, layer));
        add(all, "size of layer " + layer, INDEX, s -> s.size(layer, 1, true));
        add(all, "shapes of layer " + layer, INDEX, s -> s.shapes(layer));
        add(all, "at of layer " + layer, INDEX, s -> s.at(layer, 0, 0, 0));
        add(all, "in of layer " + layer, INDEX, s -> s.in(layer, 0, 0));
        add(all, "area2 of layer " + layer, INDEX, s -> s.area2(layer, 0));
        add(all, "touching, a is " + layer, INDEX, s -> s.touching(layer, 0, 0));
        add(all, "touching, b is " + layer, INDEX, s -> s.touching(0, layer, 0));
        add(all, "nets of layer " + layer, INDEX, s -> s.nets(layer));
        add(all, "netOf of layer " + layer, INDEX, s -> s.netOf(layer, 0));
        add(all, "edge of layer " + layer, INDEX, s -> s.edge(layer, 0, 0));
        add(all, "trapezoid of layer " + layer, INDEX, s -> s.trapezoid(layer, 0, 0));
    }

    private static void addOfThings(List<Refused> all) {
        int[] far = {-1, 9999, LOW, HIGH};
        for (int none : far) {
            add(all, "at of shape " + none, INDEX, s -> s.at(1, none, 0, 0));
            add(all, "at of corner " + none, INDEX, s -> s.at(1, 0, none, 1));
            add(all, "at of axis " + none, INDEX, s -> s.at(1, 0, 0, none));
            add(all, "area2 of limb " + none, INDEX, s -> s.area2(1, none));
            add(all, "netOf of shape " + none, INDEX, s -> s.netOf(1, none));
            add(all, "strips of " + none, INDEX, s -> s.strips(none));
            add(all, "edge " + none, INDEX, s -> s.edge(1, none, 0));
            add(all, "edge, what is " + none, INDEX, s -> s.edge(1, 0, none));
            add(all, "trapezoid " + none, INDEX, s -> s.trapezoid(1, none, 0));
            add(all, "trapezoid, what is " + none, INDEX, s -> s.trapezoid(1, 0, none));
        }
        add(all, "at of axis 2", INDEX, s -> s.at(1, 0, 0, 2));
        add(all, "area2 of limb 2", INDEX, s -> s.area2(1, 2));
        add(all, "touching, k is -1", INDEX, s -> s.touching(0, 1, -1));
        add(all, "touching, k is the least", INDEX, s -> s.touching(0, 1, LOW));
        add(all, "strips of 0", INDEX, s -> s.strips(0));
        add(all, "strips of 65", INDEX, s -> s.strips(65));
        add(all, "edge, what is 5", INDEX, s -> s.edge(1, 0, 5));
        add(all, "trapezoid, what is 4", INDEX, s -> s.trapezoid(1, 0, 4));
    }

    private static void addOfPolygons(List<Refused> all, State state) {
        int[] none = {-1, state.polygons, LOW, HIGH};
        for (int polygon : none) {
            add(all, "corner of polygon " + polygon, INDEX, s -> s.corner(polygon, 33, 0));
        }
        if (state.polygons == 16) {
            add(all, "polygon 17", STATE, s -> s.polygon(0));
            add(all, "polygon 17 on the last layer", STATE, s -> s.polygon(BASE - 1));
        }
        if (state.full >= 0) {
            add(all, "corner 17", STATE, s -> s.corner(state.full, 60, 8));
            add(all, "corner 17 that is not in line", STATE, s -> s.corner(state.full, 0, 0));
        }
        for (int i = 0; i < state.polygons; i++) {
            int polygon = i;
            if (polygon != state.full) {
                add(all, "corner of " + i + ", x is -1", ARGUMENT, s -> s.corner(polygon, -1, 0));
                add(all, "corner of " + i + ", x is 65", ARGUMENT, s -> s.corner(polygon, 65, 0));
                add(all, "corner of " + i + ", y is -1", ARGUMENT, s -> s.corner(polygon, 33, -1));
                add(all, "corner of " + i + ", y is 65", ARGUMENT, s -> s.corner(polygon, 33, 65));
                add(all, "corner of " + i + ", x wraps round to 0", ARGUMENT, s -> s.corner(polygon, 1L << 32, 33));
            }
        }
    }

    private static void addOfMakers(List<Refused> all, State state) {
        int last = state.layers() - 1;
        if (state.isFull()) {
            add(all, "op 25", STATE, s -> s.op(0, 0, last));
            add(all, "inside 25", STATE, s -> s.op(4, 1, last));
            add(all, "touching 25", STATE, s -> s.op(5, 1, last));
            add(all, "size 25", STATE, s -> s.size(last, 64, false));
            add(all, "octagon 25", STATE, s -> s.size(0, -1, true));
            return;
        }
        int[] none = {-1, 6, LOW, HIGH};
        for (int what : none) {
            add(all, "operation " + what, ARGUMENT, s -> s.op(what, 0, last));
        }
        long[] wrong = {0, 65, -65, 1L << 32, Long.MIN_VALUE, Long.MAX_VALUE};
        for (long by : wrong) {
            add(all, "size by " + by, ARGUMENT, s -> s.size(last, by, false));
            add(all, "octagon by " + by, ARGUMENT, s -> s.size(0, by, true));
        }
    }

    /** Where several exceptions would do. */
    private static List<Refused> severalWouldDo(State state) {
        List<Refused> all = new ArrayList<>();
        int last = state.layers() - 1;
        int[] operations = {-1, 6, LOW, HIGH};
        long[] sizes = {0, 65, -65, Long.MIN_VALUE};
        for (int layer : noLayers(state)) {
            for (int what : operations) {
                add(all, "operation " + what + ", a is " + layer, INDEX, s -> s.op(what, layer, 0));
                add(all, "operation " + what + ", b is " + layer, INDEX, s -> s.op(what, last, layer));
                add(all, "operation " + what + ", both are " + layer, INDEX, s -> s.op(what, layer, layer));
            }
            for (long by : sizes) {
                add(all, "size by " + by + " of layer " + layer, INDEX, s -> s.size(layer, by, false));
                add(all, "octagon by " + by + " of layer " + layer, INDEX, s -> s.size(layer, by, true));
            }
        }
        if (state.isFull()) {
            for (int what : operations) {
                add(all, "op 25, operation " + what, STATE, s -> s.op(what, 0, last));
            }
            for (long by : sizes) {
                add(all, "size 25, by " + by, STATE, s -> s.size(last, by, false));
                add(all, "octagon 25, by " + by, STATE, s -> s.size(0, by, true));
            }
        }
        addSeveralOfPolygons(all, state);
        return all;
    }

    private static void addSeveralOfPolygons(List<Refused> all, State state) {
        int[] none = {-1, state.polygons, LOW, HIGH};
        long[] far = {-1, 65, Long.MIN_VALUE, Long.MAX_VALUE};
        for (long beyond : far) {
            for (int polygon : none) {
                add(all, "corner of " + polygon + ", x is " + beyond, INDEX, s -> s.corner(polygon, beyond, 0));
                add(all, "corner of " + polygon + ", y is " + beyond, INDEX, s -> s.corner(polygon, 0, beyond));
            }
            if (state.full >= 0) {
                add(all, "corner 17, x is " + beyond, STATE, s -> s.corner(state.full, beyond, 7));
                add(all, "corner 17, y is " + beyond, STATE, s -> s.corner(state.full, 60, beyond));
            }
        }
        if (state.polygons == 16) {
            for (int layer : noLayers(state)) {
                add(all, "polygon 17 of layer " + layer, INDEX, s -> s.polygon(layer));
            }
            add(all, "polygon 17 of a made layer", INDEX, s -> s.polygon(BASE));
        }
    }

    @Sentence(of = "Terms",
            words = "Methods throw what their comments name, the one named first when several would do.")
    static void firstNamedOfSeveral() {
        for (State state : State.values()) {
            Used used = state.make();
            for (Refused refused : severalWouldDo(state)) {
                CHECK.text(state + ": " + refused.name, used.ask(refused.call), refused.due);
            }
        }
    }

    @Sentence(of = "Terms", words = "IndexOutOfBoundsException: there is no such layer, polygon, shape, edge, box or "
            + "corner, or what.")
    static void noSuchThing() {
        for (State state : State.values()) {
            Used used = state.make();
            for (Refused refused : plainRefusals(state)) {
                CHECK.text(state + ": " + refused.name, used.ask(refused.call), refused.due);
            }
        }
    }

    @Sentence(of = "Terms", words = "A call that throws changes nothing.")
    static void refusedCallChangesNothing() {
        for (State state : State.values()) {
            String due = state.make().look();
            List<Refused> all = plainRefusals(state);
            all.addAll(severalWouldDo(state));
            for (Refused refused : all) {
                Used used = state.make();
                CHECK.text(state + ": " + refused.name, used.ask(refused.call), refused.due);
                CHECK.text(state + ": look after " + refused.name, used.look(), due);
            }
        }
    }

    /** Many in a row leave as little behind as one. */
    @Sentence(of = "Terms", words = "A call that throws changes nothing.")
    static void manyRefusedCallsChangeNothing() {
        for (State state : State.values()) {
            String due = state.make().look();
            List<Refused> all = plainRefusals(state);
            all.addAll(severalWouldDo(state));
            for (int from = 0; from < all.size(); from += 40) {
                Used used = state.make();
                for (Refused refused : all.subList(from, Math.min(from + 40, all.size()))) {
                    used.ask(refused.call);
                }
                CHECK.text(state + ": look after refusals from " + from + " on", used.look(), due);
            }
        }
    }
}
