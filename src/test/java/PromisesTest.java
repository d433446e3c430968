/** Each promise of the document by examples worked out by hand: ordinary calls, edges, refusals and their order. */
public final class PromisesTest {
    private static final long NOTHING = -1000000000000L;
    private static final int LOW = Integer.MIN_VALUE;
    private static final int HIGH = Integer.MAX_VALUE;
    private static int wrong = 0;
    private static int promise = 0;

    private static void due(String call, long got, long want) {
        if (got != want) {
            wrong++;
            System.out.println("promise " + promise + ": " + call + " answered " + got + ", due is " + want);
        }
    }

    private static void due(String call, boolean got, boolean want) {
        due(call, got ? 1 : 0, want ? 1 : 0);
    }

    private static SolidRows of(int... numbers) {
        SolidRows solid = new SolidRows();
        for (int k = 0; k + 2 < numbers.length; k += 3) {
            int answer = solid.point(numbers[k], numbers[k + 1], numbers[k + 2]);
            if (answer != k / 3) {
                wrong++;
                System.out.println("promise " + promise + ": point " + k / 3 + " of a sample answered " + answer);
            }
        }
        return solid;
    }

    private static SolidRows cube() {
        return of(1, 1, 1, 1, 1, -1, 1, -1, 1, 1, -1, -1, -1, 1, 1, -1, 1, -1, -1, -1, 1, -1, -1, -1);
    }

    private static SolidRows octahedron() {
        return of(2, 0, 0, -2, 0, 0, 0, 2, 0, 0, -2, 0, 0, 0, 2, 0, 0, -2);
    }

    private static SolidRows tetrahedron() {
        return of(1, 1, 1, 1, -1, -1, -1, 1, -1, -1, -1, 1);
    }

    /** A pyramid over a square, point 0 not a corner, the top with number 5. */
    private static SolidRows pyramid() {
        return of(0, 0, 0, 3, 3, 0, -3, 3, 0, -3, -3, 0, 3, -3, 0, 0, 0, 4);
    }

    /** A body without any symmetry but the one that moves nothing. */
    private static SolidRows crooked() {
        return of(0, 0, 0, 1, 0, 0, 0, 2, 0, 0, 0, 5);
    }

    private static SolidRows[] flats() {
        return new SolidRows[] {of(), of(1, 2, 3), of(1, 2, 3, 3, 2, 1), of(0, 0, 0, 1, 1, 1, 2, 2, 2, -3, -3, -3),
            of(1, 0, 0, 0, 1, 0, 0, 0, 1), of(1, 0, 0, 0, 1, 0, 0, 0, 1, 1, 1, -1, -1, 1, 1)};
    }

    private static void newObject() {
        promise = 1;
        SolidRows solid = new SolidRows();
        due("flat()", solid.flat(), true);
        due("cutAt(0, 0, 0)", solid.cutAt(0, 0, 0), NOTHING);
        due("clear()", solid.clear(), 0);
        due("point(0, 0, 0)", solid.point(0, 0, 0), 0);
        due("NOTHING", SolidRows.NOTHING, NOTHING);
    }

    private static void point() {
        promise = 2;
        SolidRows solid = new SolidRows();
        due("point(20, -20, 20)", solid.point(20, -20, 20), 0);
        due("point(-20, 20, -20)", solid.point(-20, 20, -20), 1);
        int[] bad = {21, -21, LOW, HIGH};
        for (int n : bad) {
            due("point(n, 0, 0)", solid.point(n, 0, 0), -2);
            due("point(0, n, 0)", solid.point(0, n, 0), -2);
            due("point(0, 0, n)", solid.point(0, 0, n), -2);
        }
        due("point again", solid.point(20, -20, 20), -3);
        due("point with X, Y changed", solid.point(-20, 20, 20), 2);
        for (int k = 3; k < 14; k++) {
            due("point(k, 0, 0)", solid.point(k, 0, 0), k);
        }
        due("a 15th", solid.point(0, 0, 0), -4);
        due("a 15th like another", solid.point(13, 0, 0), -3);
        due("a 15th out of bounds", solid.point(0, 0, 21), -2);
        due("clear()", solid.clear(), 14);
        due("room again", solid.point(13, 0, 0), 0);
        due("a refused point changes nothing", cube().corners(), 255);
        SolidRows same = cube();
        same.point(1, 1, 1);
        same.point(0, 0, 21);
        due("corners()", same.corners(), 255);
        due("clear()", same.clear(), 8);
    }

    private static void clear() {
        promise = 3;
        SolidRows solid = cube();
        due("symmetries()", solid.symmetries(), 48);
        due("clear()", solid.clear(), 8);
        due("clear()", solid.clear(), 0);
        due("flat()", solid.flat(), true);
        due("corners()", solid.corners(), -3);
        due("symmetries()", solid.symmetries(), -3);
        due("point(0, 0, 0)", solid.point(0, 0, 0), 0);
        due("point(1, 0, 0)", solid.point(1, 0, 0), 1);
        due("point(0, 2, 0)", solid.point(0, 2, 0), 2);
        due("point(0, 0, 5)", solid.point(0, 0, 5), 3);
        due("corners()", solid.corners(), 15);
        due("edges()", solid.edges(), 6);
        due("faces()", solid.faces(), 4);
        due("symmetries()", solid.symmetries(), 1);
        due("way(0, 7)", solid.way(0, 7), -1);
    }

    private static void flat() {
        promise = 4;
        for (SolidRows solid : flats()) {
            due("flat()", solid.flat(), true);
        }
        due("a tetrahedron", tetrahedron().flat(), false);
        SolidRows square = of(0, 0, 0, 4, 0, 0, 0, 4, 0, 4, 4, 0, 1, 1, 0);
        due("a square", square.flat(), true);
        square.point(2, 2, 1);
        due("with a top", square.flat(), false);
        due("just off a plane", of(20, 20, 20, -20, -20, 20, 20, -20, -20, 1, 0, 19, 0, 0, 19).flat(), false);
    }

    private static void corners() {
        promise = 5;
        due("a cube", cube().corners(), 255);
        due("a pyramid whose point 0 lies in its ground", pyramid().corners(), 0b111110);
        SolidRows solid = of(0, 0, 0, 4, 0, 0, 0, 4, 0, 0, 0, 4, 1, 1, 1, 2, 0, 0, 1, 1, 0, 2, 2, 0);
        due("points within, on an edge, on a face", solid.corners(), 15);
        solid.point(2, 2, 2);
        due("one more outside", solid.corners(), 15 | 1 << 8);
        SolidRows overtaken = of(1, 1, 1, 0, 0, 0, 2, 0, 0, 0, 2, 0, 0, 0, 2);
        due("a corner", overtaken.corners(), 31);
        overtaken.point(4, 4, 4);
        due("is none any more", overtaken.corners(), 0b111110);
        for (SolidRows flat : flats()) {
            due("flat", flat.corners(), -3);
        }
    }

    private static void edges() {
        promise = 6;
        due("a cube", cube().edges(), 12);
        due("an octahedron", octahedron().edges(), 12);
        due("a tetrahedron", tetrahedron().edges(), 6);
        due("a pyramid", pyramid().edges(), 8);
        for (SolidRows flat : flats()) {
            due("flat", flat.edges(), -3);
        }
    }

    private static void faces() {
        promise = 7;
        due("a cube", cube().faces(), 6);
        due("an octahedron", octahedron().faces(), 8);
        due("a tetrahedron", tetrahedron().faces(), 4);
        due("a pyramid", pyramid().faces(), 5);
        SolidRows most = new SolidRows();
        for (int t = -6; t <= 7; t++) {
            int up = t * t - 25;
            most.point(t, Math.max(-20, Math.min(20, up)), Math.max(-20, Math.min(20, t * t * t / 20)));
        }
        due("Euler's formula", Integer.bitCount(most.corners()) - most.edges() + most.faces(), 2);
        for (SolidRows flat : flats()) {
            due("flat", flat.faces(), -3);
        }
    }

    private static void size() {
        promise = 8;
        SolidRows solid = pyramid();
        due("size(0)", solid.size(0), 3);
        due("size(1)", solid.size(1), 4);
        due("size(2)", solid.size(2), 3);
        due("size(4)", solid.size(4), 3);
        int[] bad = {-1, 5, 24, LOW, HIGH};
        for (int n : bad) {
            due("no such face", solid.size(n), -1);
        }
        for (SolidRows flat : flats()) {
            due("flat", flat.size(0), -3);
            due("flat, no such face", flat.size(-1), -3);
        }
    }

    private static void at() {
        promise = 9;
        SolidRows solid = pyramid();
        int[][] rows = {{1, 2, 5}, {1, 4, 3, 2}, {1, 5, 4}, {2, 3, 5}, {3, 4, 5}};
        for (int face = 0; face < rows.length; face++) {
            for (int k = 0; k < rows[face].length; k++) {
                due("at(" + face + ", " + k + ")", solid.at(face, k), rows[face][k]);
            }
            due("behind the last", solid.at(face, rows[face].length), -1);
            due("before the first", solid.at(face, -1), -1);
        }
        int[] bad = {-1, 5, LOW, HIGH};
        for (int n : bad) {
            due("no such face", solid.at(n, 0), -1);
            due("no such place", solid.at(0, n), -1);
        }
        for (SolidRows flat : flats()) {
            due("flat", flat.at(0, 0), -3);
            due("flat, none such", flat.at(-1, -1), -3);
        }
    }

    private static void normal() {
        promise = 10;
        SolidRows solid = pyramid();
        long[][] normals = {{0, 4, 3, 12}, {0, 0, -1, 0}, {4, 0, 3, 12}, {-4, 0, 3, 12}, {0, -4, 3, 12}};
        for (int face = 0; face < normals.length; face++) {
            for (int what = 0; what < 4; what++) {
                due("normal(" + face + ", " + what + ")", solid.normal(face, what), normals[face][what]);
            }
        }
        int[] bad = {-1, 5, LOW, HIGH};
        for (int n : bad) {
            due("no such face", solid.normal(n, 0), NOTHING);
            due("no such what", solid.normal(0, n), NOTHING);
        }
        due("no such what", solid.normal(0, 4), NOTHING);
        due("a level below 0", of(5, 5, 5, 6, 5, 5, 5, 6, 5, 5, 5, 6).normal(0, 3), -5);
        for (SolidRows flat : flats()) {
            due("flat", flat.normal(0, 0), NOTHING);
        }
    }

    private static void volume() {
        promise = 11;
        due("a cube", cube().volume(), 48);
        due("a pyramid", pyramid().volume(), 6 * 36 * 4 / 3);
        due("an octahedron", octahedron().volume(), 64);
        due("far from 0", of(5, 5, 5, 6, 5, 5, 5, 6, 5, 5, 5, 6).volume(), 1);
        SolidRows great = of(20, 20, 20, 20, 20, -20, 20, -20, 20, 20, -20, -20, -20, 20, 20, -20, 20, -20, -20, -20, 20);
        due("a cube without a corner", great.volume(), 6 * 64000 - 64000);
        great.point(-20, -20, -20);
        due("the greatest cube", great.volume(), 6 * 64000);
        for (SolidRows flat : flats()) {
            due("flat", flat.volume(), NOTHING);
        }
    }

    private static void middle() {
        promise = 12;
        SolidRows solid = crooked();
        long[][] middles = {{1, 4}, {1, 2}, {5, 4}};
        for (int axis = 0; axis < 3; axis++) {
            due("above", solid.middle(axis, 0), middles[axis][0]);
            due("below", solid.middle(axis, 1), middles[axis][1]);
        }
        SolidRows under = of(0, 0, 0, -1, 0, 0, 0, -2, 0, 0, 0, -5);
        due("above, below 0", under.middle(0, 0), -1);
        due("below", under.middle(0, 1), 4);
        SolidRows away = of(5, 5, 5, 6, 5, 5, 5, 6, 5, 5, 5, 6);
        for (int axis = 0; axis < 3; axis++) {
            due("away from 0, above", away.middle(axis, 0), 21);
            due("away from 0, below", away.middle(axis, 1), 4);
        }
        due("a pyramid, X", pyramid().middle(0, 0), 0);
        due("0 is 0 / 1", pyramid().middle(0, 1), 1);
        due("a pyramid, Z", pyramid().middle(2, 0), 1);
        due("a pyramid, Z", pyramid().middle(2, 1), 1);
        int[] bad = {-1, LOW, HIGH};
        for (int n : bad) {
            due("no such axis", solid.middle(n, 0), NOTHING);
            due("no such part", solid.middle(0, n), NOTHING);
        }
        due("no such axis", solid.middle(3, 0), NOTHING);
        due("no such part", solid.middle(0, 2), NOTHING);
        for (SolidRows flat : flats()) {
            due("flat", flat.middle(0, 0), NOTHING);
        }
    }

    private static void where() {
        promise = 13;
        SolidRows solid = pyramid();
        due("within", solid.where(0, 0, 1, 1), 2);
        due("in a face", solid.where(0, 0, 0, 1), 1);
        due("on an edge", solid.where(3, 0, 0, 1), 1);
        due("a corner", solid.where(0, 0, 4, 1), 1);
        due("outside", solid.where(0, 0, -1, 1), 0);
        due("in the plane of a face, outside", solid.where(4, 0, 0, 1), 0);
        due("just within", solid.where(0, 0, 3999, 1000), 2);
        due("just outside", solid.where(0, 0, 4001, 1000), 0);
        due("half way up an edge", solid.where(3, 3, 4, 2), 1);
        due("bounds", solid.where(100000, -100000, 100000, 1000), 0);
        due("bounds", solid.where(1, 1, 1, 1000), 2);
        int[] bad = {100001, -100001, LOW, HIGH};
        for (int n : bad) {
            due("x", solid.where(n, 0, 0, 1), -2);
            due("y", solid.where(0, n, 0, 1), -2);
            due("z", solid.where(0, 0, n, 1), -2);
            due("down", solid.where(0, 0, 0, n), -2);
        }
        due("down 0", solid.where(0, 0, 0, 0), -2);
        due("down -1", solid.where(0, 0, 0, -1), -2);
        due("down 1001", solid.where(0, 0, 0, 1001), -2);
        for (SolidRows flat : flats()) {
            due("flat", flat.where(0, 0, 0, 1), -3);
            due("flat, out of bounds", flat.where(0, 0, 0, 0), -3);
        }
    }

    private static void cut() {
        promise = 14;
        SolidRows solid = pyramid();
        due("the ground", solid.cut(0, 0, 1, 0), 4);
        due("half way up", solid.cut(0, 0, 1, 2), 4);
        due("the top", solid.cut(0, 0, 1, 4), 1);
        due("none above", solid.cut(0, 0, 1, 5), 0);
        due("none below", solid.cut(0, 0, -1, 2000), 0);
        due("an edge alone", solid.cut(0, 1, 0, 3), 2);
        due("through the top", solid.cut(1, 0, 0, 0), 3);
        due("through the top and two corners", solid.cut(1, 1, 0, 0), 3);
        due("along a face", solid.cut(4, 0, 3, 12), 3);
        int[] bad = {21, -21, LOW, HIGH};
        for (int n : bad) {
            due("a", solid.cut(n, 0, 0, 0), -2);
            due("b", solid.cut(0, n, 0, 0), -2);
            due("c", solid.cut(0, 0, n, 0), -2);
        }
        due("all 0", solid.cut(0, 0, 0, 0), -2);
        due("d", solid.cut(1, 0, 0, 2001), -2);
        due("d", solid.cut(1, 0, 0, -2001), -2);
        due("d", solid.cut(1, 0, 0, LOW), -2);
        due("bounds", solid.cut(20, -20, 20, -2000), 0);
        due("bounds", solid.cut(1, 0, 0, 2000), 0);
        for (SolidRows flat : flats()) {
            due("flat", flat.cut(1, 0, 0, 0), -3);
            due("flat, out of bounds", flat.cut(0, 0, 0, 0), -3);
        }
    }

    private static void cutRow(SolidRows solid, long[][] corners) {
        for (int i = 0; i < corners.length; i++) {
            for (int axis = 0; axis < 3; axis++) {
                due("corner " + i + ", axis " + axis + ", above", solid.cutAt(i, axis, 0), corners[i][2 * axis]);
                due("corner " + i + ", axis " + axis + ", below", solid.cutAt(i, axis, 1), corners[i][2 * axis + 1]);
            }
        }
        due("behind the last", solid.cutAt(corners.length, 0, 0), NOTHING);
    }

    private static void cutAt() {
        promise = 15;
        SolidRows solid = pyramid();
        cutRow(solid, new long[][] {});
        solid.cut(0, 0, 1, 1);
        long[][] ring = {{-9, 4, -9, 4, 1, 1}, {-9, 4, 9, 4, 1, 1}, {9, 4, -9, 4, 1, 1}, {9, 4, 9, 4, 1, 1}};
        cutRow(solid, ring);
        due("refused", solid.cut(0, 0, 0, 1), -2);
        cutRow(solid, ring);
        due("refused", solid.point(0, 0, 0), -3);
        due("refused", solid.point(0, 0, 21), -2);
        cutRow(solid, ring);
        int[] bad = {-1, LOW, HIGH};
        for (int n : bad) {
            due("no such corner", solid.cutAt(n, 0, 0), NOTHING);
            due("no such axis", solid.cutAt(0, n, 0), NOTHING);
            due("no such part", solid.cutAt(0, 0, n), NOTHING);
        }
        due("no such axis", solid.cutAt(0, 3, 0), NOTHING);
        due("no such part", solid.cutAt(0, 0, 2), NOTHING);
        solid.cut(1, 0, 0, 0);
        cutRow(solid, new long[][] {{0, 1, -3, 1, 0, 1}, {0, 1, 0, 1, 4, 1}, {0, 1, 3, 1, 0, 1}});
        SolidRows cube = cube();
        cube.cut(1, 0, 0, 1);
        cutRow(cube, new long[][] {{1, 1, -1, 1, -1, 1}, {1, 1, -1, 1, 1, 1}, {1, 1, 1, 1, -1, 1}, {1, 1, 1, 1, 1, 1}});
        due("an empty cut", solid.cut(0, 0, 1, 5), 0);
        cutRow(solid, new long[][] {});
        solid.cut(1, 0, 0, 0);
        due("a point within", solid.point(0, 0, 1), 6);
        cutRow(solid, new long[][] {});
        solid.cut(1, 0, 0, 0);
        solid.clear();
        cutRow(solid, new long[][] {});
    }

    private static void shadow() {
        promise = 16;
        due("a cube along an axis", cube().shadow(0, 0, -1), 4);
        due("a cube along a diagonal", cube().shadow(20, 20, 20), 6);
        due("a cube along a face's diagonal", cube().shadow(0, 1, -1), 4);
        due("a cube along another way", cube().shadow(1, 2, 3), 6);
        due("a pyramid from above", pyramid().shadow(0, 0, 1), 4);
        due("a pyramid from aside", pyramid().shadow(1, 0, 0), 3);
        due("a pyramid along an edge", pyramid().shadow(3, 3, -4), 4);
        due("a tetrahedron along an edge", tetrahedron().shadow(0, 1, 1), 3);
        due("a tetrahedron along an axis", tetrahedron().shadow(1, 0, 0), 4);
        due("three corners about one", crooked().shadow(1, 1, 1), 3);
        due("all four corners", crooked().shadow(1, 1, -1), 4);
        int[] bad = {21, -21, LOW, HIGH};
        for (int n : bad) {
            due("a", cube().shadow(n, 0, 0), -2);
            due("b", cube().shadow(0, n, 0), -2);
            due("c", cube().shadow(0, 0, n), -2);
        }
        due("all 0", cube().shadow(0, 0, 0), -2);
        for (SolidRows flat : flats()) {
            due("flat", flat.shadow(1, 0, 0), -3);
            due("flat, all 0", flat.shadow(0, 0, 0), -3);
        }
        SolidRows kept = cube();
        kept.cut(0, 0, 1, 1);
        kept.shadow(1, 1, 1);
        due("a shadow leaves the cut", kept.cutAt(3, 0, 0), 1);
    }

    private static void far() {
        promise = 17;
        SolidRows solid = pyramid();
        due("upward", solid.far(0, 0, 1, 0), 4);
        due("upward", solid.far(0, 0, 1, 1), 1 << 5);
        due("downward", solid.far(0, 0, -20, 0), 0);
        due("downward, corners alone", solid.far(0, 0, -20, 1), 0b11110);
        due("aside", solid.far(20, 0, 0, 0), 60);
        due("aside", solid.far(20, 0, 0, 1), 1 << 1 | 1 << 4);
        due("below 0", of(5, 5, 5, 6, 5, 5, 5, 6, 5, 5, 5, 6).far(-1, -1, -1, 0), -15);
        int[] bad = {21, -21, LOW, HIGH};
        for (int n : bad) {
            due("a", solid.far(n, 0, 0, 0), NOTHING);
            due("b", solid.far(0, n, 0, 0), NOTHING);
            due("c", solid.far(0, 0, n, 1), NOTHING);
            due("what", solid.far(1, 0, 0, n), NOTHING);
        }
        due("what", solid.far(1, 0, 0, 2), NOTHING);
        due("what", solid.far(1, 0, 0, -1), NOTHING);
        due("all 0", solid.far(0, 0, 0, 0), NOTHING);
        for (SolidRows flat : flats()) {
            due("flat", flat.far(1, 0, 0, 0), NOTHING);
        }
    }

    private static void way() {
        promise = 18;
        SolidRows solid = pyramid();
        due("way(1, 2)", solid.way(1, 2), 1);
        due("way(1, 3)", solid.way(1, 3), 2);
        due("way(3, 1)", solid.way(3, 1), 2);
        due("way(5, 3)", solid.way(5, 3), 1);
        due("way(4, 4)", solid.way(4, 4), 0);
        due("across a cube", cube().way(7, 0), 3);
        int[] bad = {0, -1, 6, 14, 32, 33, LOW, HIGH};
        for (int n : bad) {
            due("no corner", solid.way(n, 1), -1);
            due("no corner", solid.way(1, n), -1);
            due("no corner", solid.way(n, n), -1);
        }
        for (SolidRows flat : flats()) {
            due("flat", flat.way(0, 0), -3);
            due("flat", flat.way(-1, 0), -3);
        }
    }

    private static void symmetries() {
        promise = 19;
        due("a cube", cube().symmetries(), 48);
        due("an octahedron", octahedron().symmetries(), 48);
        due("a tetrahedron", tetrahedron().symmetries(), 24);
        due("a pyramid", pyramid().symmetries(), 8);
        due("a crooked one", crooked().symmetries(), 1);
        SolidRows spoiled = cube();
        spoiled.symmetries();
        spoiled.point(2, 0, 0);
        due("a cube with a roof", spoiled.symmetries(), 8);
        spoiled.point(0, 0, 0);
        due("a point within counts for nothing", spoiled.symmetries(), 8);
        for (SolidRows flat : flats()) {
            due("flat", flat.symmetries(), -3);
        }
    }

    private static void symmetry() {
        promise = 20;
        SolidRows solid = pyramid();
        int[][] rows = {{1, 2, 3, 4}, {1, 4, 3, 2}, {2, 1, 4, 3}, {2, 3, 4, 1},
            {3, 2, 1, 4}, {3, 4, 1, 2}, {4, 1, 2, 3}, {4, 3, 2, 1}};
        for (int i = 0; i < rows.length; i++) {
            for (int k = 0; k < 4; k++) {
                due("symmetry(" + i + ", " + (k + 1) + ")", solid.symmetry(i, k + 1), rows[i][k]);
            }
            due("the top", solid.symmetry(i, 5), 5);
            due("no corner", solid.symmetry(i, 0), -1);
        }
        int[] bad = {-1, 8, 48, LOW, HIGH};
        for (int n : bad) {
            due("no such symmetry", solid.symmetry(n, 1), -1);
            due("no such corner", solid.symmetry(0, n), -1);
        }
        for (SolidRows flat : flats()) {
            due("flat", flat.symmetry(0, 0), -3);
            due("flat", flat.symmetry(-1, -1), -3);
        }
    }

    private static void turn() {
        promise = 21;
        SolidRows solid = pyramid();
        int[] turns = {1, 0, 0, 1, 0, 1, 1, 0};
        for (int i = 0; i < turns.length; i++) {
            due("turn(" + i + ")", solid.turn(i), turns[i]);
        }
        due("a cube through its middle", cube().turn(47), 0);
        int[] bad = {-1, 8, 48, LOW, HIGH};
        for (int n : bad) {
            due("no such symmetry", solid.turn(n), -1);
        }
        for (SolidRows flat : flats()) {
            due("flat", flat.turn(0), -3);
            due("flat", flat.turn(-1), -3);
        }
    }

    private static void order() {
        promise = 22;
        SolidRows solid = pyramid();
        int[] orders = {1, 2, 2, 4, 2, 2, 4, 2};
        for (int i = 0; i < orders.length; i++) {
            due("order(" + i + ")", solid.order(i), orders[i]);
        }
        SolidRows double3 = of(1, -1, 0, 0, 1, -1, -1, 0, 1, 2, 2, 2, -2, -2, -2);
        due("two tops on a triangle", double3.symmetries(), 12);
        due("a third of a turn", double3.order(6), 3);
        due("with the tops changed", double3.order(7), 6);
        int[] counts = new int[7];
        SolidRows cube = cube();
        for (int i = 0; i < 48; i++) {
            counts[Math.max(0, Math.min(6, cube.order(i)))]++;
        }
        int[] dueCounts = {0, 1, 19, 8, 12, 0, 8};
        for (int n = 0; n < counts.length; n++) {
            due("how many of a cube's have order " + n, counts[n], dueCounts[n]);
        }
        int[] bad = {-1, 8, 48, LOW, HIGH};
        for (int n : bad) {
            due("no such symmetry", solid.order(n), -1);
        }
        for (SolidRows flat : flats()) {
            due("flat", flat.order(0), -3);
            due("flat", flat.order(-1), -3);
        }
    }

    private static void regular() {
        promise = 23;
        due("a cube", cube().regular(), 1);
        due("an octahedron", octahedron().regular(), 1);
        due("a tetrahedron", tetrahedron().regular(), 1);
        due("a pyramid", pyramid().regular(), 0);
        due("a crooked one", crooked().regular(), 0);
        SolidRows rhombic = of(2, 0, 0, -2, 0, 0, 0, 2, 0, 0, -2, 0, 0, 0, 2, 0, 0, -2);
        for (int k = 0; k < 8; k++) {
            rhombic.point((k & 1) * 2 - 1, (k & 2) - 1, (k & 4) / 2 - 1);
        }
        due("a rhombic dodecahedron's symmetries", rhombic.symmetries(), 48);
        due("a rhombic dodecahedron's faces", rhombic.faces(), 12);
        due("a rhombic dodecahedron", rhombic.regular(), 0);
        due("a brick", of(0, 0, 0, 1, 0, 0, 0, 1, 0, 1, 1, 0, 0, 0, 2, 1, 0, 2, 0, 1, 2, 1, 1, 2).regular(), 0);
        for (SolidRows flat : flats()) {
            due("flat", flat.regular(), -3);
        }
    }

    public static void main(String[] args) {
        newObject();
        point();
        clear();
        flat();
        corners();
        edges();
        faces();
        size();
        at();
        normal();
        volume();
        middle();
        where();
        cut();
        cutAt();
        shadow();
        far();
        way();
        symmetries();
        symmetry();
        turn();
        order();
        regular();
        System.out.println(wrong == 0 ? "all answers are as due" : wrong + " answers are not as due");
        if (wrong != 0) {
            System.exit(1);
        }
    }
}
