import java.util.ArrayList;
import java.util.List;

/**
 * "REFUSALS change nothing": in many states each refused call alone, and all of them in a row, against a twin
 * that had none; whatever may be asked behind it is asked of both. No object is asked more than 512 times.
 */
public final class RefusalsTest {
    private static final long NOTHING = -1000000000000L;
    private static final int LOW = Integer.MIN_VALUE;
    private static final int HIGH = Integer.MAX_VALUE;
    private static int wrong = 0;
    private static int asked = 0;

    private interface Ask {
        long of(SolidRows solid);
    }

    private record Call(String name, Ask ask, long due) {
    }

    /** Points, and what was done behind them before the refused call. */
    private record State(String name, int[] points, Ask behind) {
        SolidRows make() {
            SolidRows solid = new SolidRows();
            for (int k = 0; k + 2 < points.length; k += 3) {
                solid.point(points[k], points[k + 1], points[k + 2]);
            }
            behind.of(solid);
            return solid;
        }
    }

    // ---- states

    private static final int[] CUBE = {1, 1, 1, 1, 1, -1, 1, -1, 1, 1, -1, -1, -1, 1, 1, -1, 1, -1, -1, -1, 1, -1, -1, -1};
    private static final int[] PYRAMID = {0, 0, 0, 3, 3, 0, -3, 3, 0, -3, -3, 0, 3, -3, 0, 0, 0, 4};
    private static final int[] RING = {0, 0, 0, 1, 0, 0, 3, 1, 0, 4, 2, 0, 5, 4, 0, 5, 5, 0, 4, 7, 0, 3, 8, 0, 2, 8, 0,
        0, 7, 0, -1, 6, 0, -2, 4, 0, -2, 3, 0, -1, 1, 0};

    /** Two bows of seven corners: 24 faces, and Z = 0 cuts each of them. */
    private static int[] bows() {
        int[] numbers = new int[42];
        for (int t = -3; t <= 3; t++) {
            int up = 3 * (t + 3);
            numbers[up + 1] = t;
            numbers[up + 2] = 10 - t * t;
            numbers[21 + up] = t;
            numbers[21 + up + 2] = t * t - 10;
        }
        return numbers;
    }

    private static List<State> flatStates() {
        List<State> states = new ArrayList<>();
        states.add(new State("new", new int[] {}, s -> 0));
        states.add(new State("one point", new int[] {1, 2, 3}, s -> 0));
        states.add(new State("three points", new int[] {1, 0, 0, 0, 1, 0, 0, 0, 1}, s -> 0));
        states.add(new State("five on a line", new int[] {0, 0, 0, 1, 1, 1, 2, 2, 2, -3, -3, -3, 5, 5, 5}, s -> 0));
        states.add(new State("full and flat", RING, s -> 0));
        states.add(new State("cleared", CUBE, s -> s.cut(1, 1, 1, 0) + s.symmetries() + s.clear()));
        return states;
    }

    private static List<State> solidStates() {
        List<State> states = new ArrayList<>();
        int[] bows = bows();
        states.add(new State("a cube", CUBE, s -> 0));
        states.add(new State("a cube, cut", CUBE, s -> s.cut(1, 1, 1, 0)));
        states.add(new State("a cube, not met by the cut", CUBE, s -> s.cut(1, 1, 1, 0) + s.cut(1, 1, 1, 9)));
        states.add(new State("a cube, symmetries known", CUBE, s -> s.symmetries()));
        states.add(new State("a pyramid, cut and known", PYRAMID, s -> s.cut(0, 0, 2, 1) + s.regular()));
        states.add(new State("bows, full", bows, s -> 0));
        states.add(new State("bows, full, cut", bows, s -> s.cut(0, 0, 1, 0) + s.shadow(1, 2, 3)));
        states.add(new State("a cube behind a clear", bows, s -> {
            s.cut(0, 0, 1, 0);
            s.clear();
            for (int k = 0; k < 24; k += 3) {
                s.point(CUBE[k], CUBE[k + 1], CUBE[k + 2]);
            }
            return s.cut(2, 1, 1, 1);
        }));
        return states;
    }

    // ---- refused calls

    private static void call(List<Call> calls, String name, long due, Ask ask) {
        calls.add(new Call(name, ask, due));
    }

    private static List<Call> refusedPoints(State state) {
        List<Call> calls = new ArrayList<>();
        for (int n : new int[] {21, -21, LOW, HIGH}) {
            call(calls, "point(" + n + ", 0, 0)", -2, s -> s.point(n, 0, 0));
            call(calls, "point(0, " + n + ", 0)", -2, s -> s.point(0, n, 0));
            call(calls, "point(0, 0, " + n + ")", -2, s -> s.point(0, 0, n));
        }
        if (state.name.equals("new") || state.name.equals("cleared")) {
            return calls;
        }
        int[] points = state.name.equals("a cube behind a clear") ? CUBE : state.points;
        for (int k = 0; k + 2 < points.length; k += 3) {
            int x = points[k];
            int y = points[k + 1];
            int z = points[k + 2];
            call(calls, "point(" + x + ", " + y + ", " + z + ")", -3, s -> s.point(x, y, z));
        }
        if (points.length == 42) {
            call(calls, "point(20, 20, 20)", -4, s -> s.point(20, 20, 20));
            call(calls, "point(-20, 19, 0)", -4, s -> s.point(-20, 19, 0));
        }
        return calls;
    }

    private static List<Call> refusedWhenFlat() {
        List<Call> calls = new ArrayList<>();
        call(calls, "corners()", -3, s -> s.corners());
        call(calls, "edges()", -3, s -> s.edges());
        call(calls, "faces()", -3, s -> s.faces());
        call(calls, "volume()", NOTHING, s -> s.volume());
        call(calls, "symmetries()", -3, s -> s.symmetries());
        call(calls, "regular()", -3, s -> s.regular());
        call(calls, "cut(1, 0, 0, 0)", -3, s -> s.cut(1, 0, 0, 0));
        call(calls, "cut(0, 0, 1, 0)", -3, s -> s.cut(0, 0, 1, 0));
        call(calls, "shadow(0, 0, 1)", -3, s -> s.shadow(0, 0, 1));
        call(calls, "where(0, 0, 0, 1)", -3, s -> s.where(0, 0, 0, 1));
        call(calls, "far(1, 0, 0, 0)", NOTHING, s -> s.far(1, 0, 0, 0));
        call(calls, "far(1, 0, 0, 1)", NOTHING, s -> s.far(1, 0, 0, 1));
        call(calls, "middle(0, 0)", NOTHING, s -> s.middle(0, 0));
        call(calls, "normal(0, 0)", NOTHING, s -> s.normal(0, 0));
        call(calls, "way(0, 0)", -3, s -> s.way(0, 0));
        call(calls, "size(0)", -3, s -> s.size(0));
        call(calls, "at(0, 0)", -3, s -> s.at(0, 0));
        call(calls, "symmetry(0, 0)", -3, s -> s.symmetry(0, 0));
        call(calls, "turn(0)", -3, s -> s.turn(0));
        call(calls, "order(0)", -3, s -> s.order(0));
        return calls;
    }

    /** Arguments that no solid takes; what is due then if it is flat, and if it is not. */
    private static List<Call> refusedAlways(boolean flat) {
        List<Call> calls = new ArrayList<>();
        long none = flat ? -3 : -1;
        long out = flat ? -3 : -2;
        for (int n : new int[] {-1, 48, LOW, HIGH}) {
            call(calls, "size(" + n + ")", none, s -> s.size(n));
            call(calls, "at(" + n + ", 0)", none, s -> s.at(n, 0));
            call(calls, "at(0, " + n + ")", none, s -> s.at(0, n));
            call(calls, "normal(" + n + ", 0)", NOTHING, s -> s.normal(n, 0));
            call(calls, "normal(0, " + n + ")", NOTHING, s -> s.normal(0, n));
            call(calls, "middle(" + n + ", 0)", NOTHING, s -> s.middle(n, 0));
            call(calls, "middle(0, " + n + ")", NOTHING, s -> s.middle(0, n));
            call(calls, "cutAt(" + n + ", 0, 0)", NOTHING, s -> s.cutAt(n, 0, 0));
            call(calls, "cutAt(0, " + n + ", 0)", NOTHING, s -> s.cutAt(0, n, 0));
            call(calls, "cutAt(0, 0, " + n + ")", NOTHING, s -> s.cutAt(0, 0, n));
            call(calls, "way(" + n + ", 1)", none, s -> s.way(n, 1));
            call(calls, "way(1, " + n + ")", none, s -> s.way(1, n));
            call(calls, "symmetry(" + n + ", 1)", none, s -> s.symmetry(n, 1));
            call(calls, "symmetry(0, " + n + ")", none, s -> s.symmetry(0, n));
            call(calls, "turn(" + n + ")", none, s -> s.turn(n));
            call(calls, "order(" + n + ")", none, s -> s.order(n));
            call(calls, "far(1, 1, 1, " + n + ")", NOTHING, s -> s.far(1, 1, 1, n));
        }
        for (int n : new int[] {21, -21, LOW, HIGH}) {
            call(calls, "cut(" + n + ", 1, 1, 0)", out, s -> s.cut(n, 1, 1, 0));
            call(calls, "cut(1, " + n + ", 1, 0)", out, s -> s.cut(1, n, 1, 0));
            call(calls, "cut(1, 1, " + n + ", 0)", out, s -> s.cut(1, 1, n, 0));
            call(calls, "shadow(" + n + ", 1, 1)", out, s -> s.shadow(n, 1, 1));
            call(calls, "shadow(1, " + n + ", 1)", out, s -> s.shadow(1, n, 1));
            call(calls, "shadow(1, 1, " + n + ")", out, s -> s.shadow(1, 1, n));
            call(calls, "far(" + n + ", 1, 1, 0)", NOTHING, s -> s.far(n, 1, 1, 0));
        }
        for (int n : new int[] {2001, -2001, LOW, HIGH}) {
            call(calls, "cut(0, 0, 1, " + n + ")", out, s -> s.cut(0, 0, 1, n));
        }
        for (int n : new int[] {100001, -100001, LOW, HIGH}) {
            call(calls, "where(" + n + ", 0, 0, 1)", out, s -> s.where(n, 0, 0, 1));
            call(calls, "where(0, " + n + ", 0, 1)", out, s -> s.where(0, n, 0, 1));
            call(calls, "where(0, 0, " + n + ", 1)", out, s -> s.where(0, 0, n, 1));
        }
        for (int n : new int[] {0, 1001, -1, LOW, HIGH}) {
            call(calls, "where(0, 0, 0, " + n + ")", out, s -> s.where(0, 0, 0, n));
        }
        call(calls, "cut(0, 0, 0, 0)", out, s -> s.cut(0, 0, 0, 0));
        call(calls, "shadow(0, 0, 0)", out, s -> s.shadow(0, 0, 0));
        call(calls, "far(0, 0, 0, 0)", NOTHING, s -> s.far(0, 0, 0, 0));
        return calls;
    }

    // ---- what later calls show

    private interface Show {
        void of(SolidRows solid, List<Long> answers);
    }

    private static void cutAndCounts(SolidRows s, List<Long> answers) {
        for (int i = 0; i < 25; i++) {
            for (int axis = 0; axis < 3; axis++) {
                answers.add(s.cutAt(i, axis, 0));
                answers.add(s.cutAt(i, axis, 1));
            }
        }
        answers.add(s.flat() ? 1L : 0L);
        long[] counts = {s.corners(), s.edges(), s.faces(), s.volume(), s.symmetries(), s.regular()};
        for (long count : counts) {
            answers.add(count);
        }
        for (int axis = 0; axis < 3; axis++) {
            answers.add(s.middle(axis, 0));
            answers.add(s.middle(axis, 1));
        }
    }

    private static void faces(SolidRows s, List<Long> answers) {
        int faces = s.faces();
        for (int face = 0; face <= faces; face++) {
            int size = s.size(face);
            answers.add((long) size);
            for (int k = 0; k < size; k++) {
                answers.add((long) s.at(face, k));
            }
            for (int what = 0; what < 4; what++) {
                answers.add(s.normal(face, what));
            }
        }
    }

    private static void ways(SolidRows s, List<Long> answers) {
        for (int p = 0; p < 15; p++) {
            for (int q = 0; q < 15; q++) {
                answers.add((long) s.way(p, q));
            }
        }
    }

    private static void symmetries(SolidRows s, List<Long> answers) {
        for (int i = 0; i <= 48; i++) {
            answers.add((long) s.turn(i));
            answers.add((long) s.order(i));
            answers.add((long) s.symmetry(i, 1));
            answers.add((long) s.symmetry(i, 3));
        }
    }

    private static void places(SolidRows s, List<Long> answers) {
        for (int n = -5; n <= 5; n++) {
            answers.add((long) s.where(n, 0, 0, 2));
            answers.add((long) s.where(n, n, n, 2));
            answers.add((long) s.shadow(1, n, 3));
            answers.add(s.far(n, 2, -1, 0));
            answers.add(s.far(n, 2, -1, 1));
            answers.add((long) s.cut(1, n, 1, 2));
            for (int i = 0; i < 6; i++) {
                answers.add(s.cutAt(i, 0, 0));
                answers.add(s.cutAt(i, 2, 1));
            }
        }
    }

    private static void pointsTillFull(SolidRows s, List<Long> answers) {
        for (int k = 0; k < 16; k++) {
            answers.add((long) s.point(-k, 19 - k, k * k % 19));
            answers.add((long) s.corners());
            answers.add(s.volume());
        }
        answers.add((long) s.clear());
        for (int k = 0; k < 24; k += 3) {
            answers.add((long) s.point(CUBE[k], CUBE[k + 1], CUBE[k + 2]));
        }
        answers.add((long) s.symmetries());
        answers.add((long) s.clear());
    }

    private static final List<Show> SHOWS = List.of(RefusalsTest::cutAndCounts, RefusalsTest::faces, RefusalsTest::ways,
        RefusalsTest::symmetries, RefusalsTest::places, RefusalsTest::pointsTillFull);

    // ---- comparing

    private static void fault(String text) {
        if (wrong++ < 40) {
            System.out.println(text);
        }
    }

    private static void refuse(SolidRows solid, State state, Call call) {
        long got = call.ask.of(solid);
        asked++;
        if (got != call.due) {
            fault(state.name + ": " + call.name + " answered " + got + ", due is " + call.due);
        }
    }

    private static void same(State state, String behind, Show show, SolidRows solid, List<Long> untouched) {
        List<Long> answers = new ArrayList<>();
        show.of(solid, answers);
        if (answers.equals(untouched)) {
            return;
        }
        int k = 0;
        while (k < answers.size() && k < untouched.size() && answers.get(k).equals(untouched.get(k))) {
            k++;
        }
        fault(state.name + ": behind " + behind + ", refused, show " + SHOWS.indexOf(show) + " differs at answer " + k);
    }

    private static void compare(State state, List<Call> calls) {
        for (Show show : SHOWS) {
            List<Long> untouched = new ArrayList<>();
            show.of(state.make(), untouched);
            for (Call call : calls) {
                SolidRows solid = state.make();
                refuse(solid, state, call);
                same(state, call.name, show, solid, untouched);
            }
            SolidRows solid = state.make();
            for (Call call : calls) {
                refuse(solid, state, call);
            }
            same(state, "all calls", show, solid, untouched);
        }
    }

    public static void main(String[] args) {
        for (State state : flatStates()) {
            List<Call> calls = refusedPoints(state);
            calls.addAll(refusedWhenFlat());
            calls.addAll(refusedAlways(true));
            compare(state, calls);
        }
        for (State state : solidStates()) {
            List<Call> calls = refusedPoints(state);
            calls.addAll(refusedAlways(false));
            compare(state, calls);
        }
        System.out.println(asked + " calls refused");
        System.out.println(wrong == 0 ? "no refusal changes anything" : wrong + " refusals are not as due");
        if (wrong != 0) {
            System.exit(1);
        }
    }
}
