import java.io.IOException;
import java.nio.file.Files;
import java.nio.file.Path;
import java.util.Arrays;

/**
 * One test for each sentence of the document that names a boundary: too small, too large, empty, full, a
 * wrap-around, a refused call. Each test bears its sentence, in the document's own words.
 */
public final class BoundariesTest {
    private static final long NOTHING = -1000000000000L;
    private static final int LOW = Integer.MIN_VALUE;
    private static final int HIGH = Integer.MAX_VALUE;
    // Times 2, 4, 8, 14 or 24 these come round to small numbers in an int, as do shifts by 32 and 64.
    private static final int[] WRAPS = {LOW, HIGH, LOW + 1, HIGH - 1, 1 << 30, 1 << 29, 1 << 28, -1 << 30, 306783379,
        -306783379, 178956971, 32, 33, 64, 65, 256, 65536};
    private static final String[] PROMISES = {"", "A new object", "point", "clear", "flat", "corners", "edges", "faces",
        "size", "at", "normal", "volume", "middle", "where", "cut", "cutAt", "shadow", "far", "way", "symmetries",
        "symmetry", "turn", "order", "regular"};
    private static int wrong = 0;
    private static int sentences = 0;
    private static String section = "";
    private static String sentence = "";
    private static String document = null;

    // ---- asking

    private static void fault(String text) {
        wrong++;
        System.out.println(section + ": '" + sentence + "': " + text);
    }

    private static void due(String call, long got, long want) {
        if (got != want) {
            fault(call + " answered " + got + ", due is " + want);
        }
    }

    private static void due(String call, boolean got, boolean want) {
        due(call, got ? 1 : 0, want ? 1 : 0);
    }

    /** A test of its own for a sentence; it is told if the document has other words there by now. */
    private static void sentence(String where, String words, Runnable test) {
        section = where;
        sentence = words;
        sentences++;
        if (document != null && !partOf(where).contains(words)) {
            System.out.println(section + ": the document does not say '" + sentence + "' there");
        }
        test.run();
    }

    private static void terms(String words, Runnable test) {
        sentence("Terms", words, test);
    }

    private static void promise(int number, String words, Runnable test) {
        sentence("Promise " + number + ": " + PROMISES[number], words, test);
    }

    private static String partOf(String where) {
        int from = document.indexOf("## " + where + " ");
        int to = document.indexOf("## ", from + 3);
        return from < 0 ? "" : document.substring(from, to < 0 ? document.length() : to);
    }

    private static String readDocument() throws IOException {
        Path path = Path.of("../shared/DOC.md");
        return Files.exists(path) ? Files.readString(path).replaceAll("\\s+", " ") + " " : null;
    }

    // ---- solids

    private static SolidRows of(int... numbers) {
        SolidRows solid = new SolidRows();
        add(solid, numbers);
        return solid;
    }

    private static void add(SolidRows solid, int... numbers) {
        for (int k = 0; k + 2 < numbers.length; k += 3) {
            if (solid.point(numbers[k], numbers[k + 1], numbers[k + 2]) < 0) {
                fault("point " + k / 3 + " of a sample was refused");
            }
        }
    }

    /** Four corners, and no symmetry but the one that moves nothing. */
    private static final int[] BODY = {0, 0, 0, 1, 0, 0, 0, 2, 0, 0, 0, 5};
    /** Point 0 lies in the ground and is no corner. */
    private static final int[] PYRAMID = {0, 0, 0, 3, 3, 0, -3, 3, 0, -3, -3, 0, 3, -3, 0, 0, 0, 4};
    private static final int[] CUBE = cube(1);
    private static final int[] GREAT = cube(20);
    private static final int[] OCTAHEDRON = {2, 0, 0, -2, 0, 0, 0, 2, 0, 0, -2, 0, 0, 0, 2, 0, 0, -2};
    /** Fourteen corners in one plane, round by the left. */
    private static final int[] RING = {0, 0, 0, 1, 0, 0, 3, 1, 0, 4, 2, 0, 5, 4, 0, 5, 5, 0, 4, 7, 0, 3, 8, 0, 2, 8, 0,
        0, 7, 0, -1, 6, 0, -2, 4, 0, -2, 3, 0, -1, 1, 0};
    /** Thirteen of these, and a top with number 13. */
    private static final int[] TENT = tent();
    /** The same fourteen, each second one raised: from above all of them are seen about the rim. */
    private static final int[] CROWN = crown();
    /** Two bows of seven corners across one another: as many faces as 14 points can have, and Z = 0 cuts each. */
    private static final int[] BOWS = bows();
    /** Four triangles one above the other between two tops, 0 and 13. */
    private static final int[] TOWER = {0, 0, -12, 4, 0, -9, -2, 3, -9, -2, -3, -9, 8, 0, -3, -4, 6, -3, -4, -6, -3,
        8, 0, 3, -4, 6, 3, -4, -6, 3, 4, 0, 9, -2, 3, 9, -2, -3, 9, 0, 0, 12};
    /** The pyramid's top is number 0, so the ground is its last face. */
    private static final int[] TOP = {0, 0, 4, 3, 3, 0, -3, 3, 0, -3, -3, 0, 3, -3, 0};
    /** X = 0 cuts two edges at the same Y, the one in fifths of Z, the other in thirds. */
    private static final int[] SKEW = {-3, 0, 9, 2, 0, 11, -1, 0, 11, 2, 0, 12, 0, 5, 10};
    private static final int[] UNIT = {0, 0, 1, 0, 0, 0, 1, 0, 0, 0, 1, 0};
    private static final int[][] SOLIDS = {BODY, PYRAMID, CUBE, GREAT, OCTAHEDRON, TENT, CROWN, BOWS, TOWER, TOP, SKEW,
        UNIT, renumbered(CUBE, 3), renumbered(TENT, 5), renumbered(CROWN, 9), renumbered(BOWS, 11), renumbered(TOWER, 3),
        renumbered(SKEW, 4)};
    private static final int[][] FLATS = {{}, {1, 2, 3}, {1, 2, 3, 3, 2, 1}, {1, 0, 0, 0, 1, 0, 0, 0, 1},
        {0, 0, 0, 1, 1, 1, 2, 2, 2, -3, -3, -3}, {1, 0, 0, 0, 1, 0, 0, 0, 1, 1, 1, -1, -1, 1, 1}, RING};

    private static int[] cube(int n) {
        return new int[] {n, n, n, n, n, -n, n, -n, n, n, -n, -n, -n, n, n, -n, n, -n, -n, -n, n, -n, -n, -n};
    }

    private static int[] tent() {
        int[] numbers = RING.clone();
        numbers[39] = 1;
        numbers[40] = 4;
        numbers[41] = 5;
        return numbers;
    }

    private static int[] crown() {
        int[] numbers = RING.clone();
        for (int k = 1; k < 14; k += 2) {
            numbers[3 * k + 2] = 3;
        }
        return numbers;
    }

    private static int[] bows() {
        int[] numbers = new int[42];
        for (int t = -3; t <= 3; t++) {
            int up = 3 * (t + 3);
            int down = 21 + up;
            numbers[up + 1] = t;
            numbers[up + 2] = 10 - t * t;
            numbers[down] = t;
            numbers[down + 2] = t * t - 10;
        }
        return numbers;
    }

    /** The same points in another order: each time the one so many places farther on, round and round. */
    private static int[] renumbered(int[] numbers, int stride) {
        int[] other = new int[numbers.length];
        for (int k = 0; k < numbers.length / 3; k++) {
            System.arraycopy(numbers, k * stride % (numbers.length / 3) * 3, other, 3 * k, 3);
        }
        return other;
    }

    private static long[] minus(int[] numbers, int p, int q) {
        return new long[] {numbers[3 * p] - numbers[3 * q], numbers[3 * p + 1] - numbers[3 * q + 1],
            numbers[3 * p + 2] - numbers[3 * q + 2]};
    }

    private static long[] cross(long[] u, long[] v) {
        return new long[] {u[1] * v[2] - u[2] * v[1], u[2] * v[0] - u[0] * v[2], u[0] * v[1] - u[1] * v[0]};
    }

    private static long dot(long[] u, long[] v) {
        return u[0] * v[0] + u[1] * v[1] + u[2] * v[2];
    }

    private static boolean has(int bits, int k) {
        return (bits >> k & 1) != 0;
    }

    // ---- what it is

    private static void calls512() {
        SolidRows solid = new SolidRows();
        for (int call = 0; call < 510; call++) {
            int k = call % 15;
            long got = k == 14 ? solid.clear() : solid.point(call % 20, k, k * k % 20);
            due("call " + (call + 1), got, k);
        }
        due("call 511", solid.flat(), true);
        due("call 512", solid.clear(), 0);
        SolidRows cuts = of(CUBE);
        for (int call = 9; call <= 510; call++) {
            due("call " + call, cuts.cut(1, 1, 1, call % 2 * 3), call % 2 == 0 ? 6 : 1);
        }
        due("call 511", cuts.cutAt(5, 0, 0), 1);
        due("call 512", cuts.symmetries(), 48);
    }

    // ---- terms

    private static void fourteenAtMost() {
        SolidRows solid = new SolidRows();
        for (int k = 0; k < 14; k++) {
            due("point " + k, solid.point(k, k * k % 7, k * k * k % 11), k);
        }
        due("a 15th", solid.point(-1, 0, 0), -4);
        due("a 15th again", solid.point(-1, 0, 0), -4);
        due("clear()", solid.clear(), 14);
        due("all 14 may be corners", of(BOWS).corners(), 16383);
    }

    private static void from20To20() {
        for (int axis = 0; axis < 3; axis++) {
            SolidRows solid = new SolidRows();
            int[] p = new int[3];
            int count = 0;
            for (int n = -23; n <= 23; n++) {
                if (count == 14) {
                    solid.clear();
                    count = 0;
                }
                p[axis] = n;
                boolean fits = n >= -20 && n <= 20;
                due("point " + Arrays.toString(p), solid.point(p[0], p[1], p[2]), fits ? count : -2);
                count += fits ? 1 : 0;
            }
        }
        SolidRows great = of(GREAT);
        due("the utmost eight", great.corners(), 255);
        due("their volume", great.volume(), 6 * 64000);
    }

    private static void noTwoAlike() {
        SolidRows solid = of(1, 2, 3);
        due("alike", solid.point(1, 2, 3), -3);
        due("another X", solid.point(-1, 2, 3), 1);
        due("another Y", solid.point(1, -2, 3), 2);
        due("another Z", solid.point(1, 2, -3), 3);
        due("the same numbers in another order", solid.point(3, 2, 1), 4);
        due("like the first", solid.point(1, 2, 3), -3);
        due("like the last", solid.point(3, 2, 1), -3);
        due("0", solid.point(0, 0, 0), 5);
        due("0 again", solid.point(0, 0, 0), -3);
    }

    private static void withoutFour() {
        SolidRows solid = new SolidRows();
        due("no points", solid.flat(), true);
        solid.point(0, 0, 0);
        due("one", solid.flat(), true);
        solid.point(1, 0, 0);
        due("two", solid.flat(), true);
        solid.point(0, 1, 0);
        due("three", solid.flat(), true);
        solid.point(0, 0, 1);
        due("four", solid.flat(), false);
    }

    private static void somePlaneHasThemAll() {
        due("four on a line", of(0, 0, 0, 1, 1, 1, 2, 2, 2, -3, -3, -3).flat(), true);
        due("three on a line and one aside", of(0, 0, 0, 1, 1, 1, 2, 2, 2, 5, 0, 0).flat(), true);
        due("a square aslant", of(1, 0, 0, 0, 1, 0, 1, 0, 5, 0, 1, 5).flat(), true);
        due("14 in a plane", of(RING).flat(), true);
        SolidRows line = new SolidRows();
        for (int k = -6; k <= 6; k++) {
            add(line, k, 2 * k, -k);
        }
        due("13 on a line", line.flat(), true);
        due("a 14th beside it", line.point(0, 0, 1), 13);
        due("13 on a line and one aside", line.flat(), true);
        SolidRows late = of(Arrays.copyOf(RING, 39));
        due("13 in a plane", late.flat(), true);
        due("the 14th off it", late.point(20, 20, -1), 13);
        due("by 1", late.flat(), false);
        // Six times the volume is 1, as little as can be.
        SolidRows thin = of(0, 0, 0, 20, 19, 20, 19, 18, 20, 1, 1, 1);
        due("hardly off it", thin.volume(), 1);
        due("hardly off it", thin.flat(), false);
    }

    private static void onlyIfNotFlat() {
        for (int[] numbers : FLATS) {
            nothingTold(of(numbers));
        }
        SolidRows cleared = of(CUBE);
        cleared.symmetries();
        cleared.cut(1, 0, 0, 0);
        cleared.clear();
        nothingTold(cleared);
    }

    private static void nothingTold(SolidRows flat) {
        due("flat()", flat.flat(), true);
        int[] answers = {flat.corners(), flat.edges(), flat.faces(), flat.size(0), flat.at(0, 0), flat.where(0, 0, 0, 1),
            flat.cut(0, 0, 1, 0), flat.shadow(0, 0, 1), flat.way(0, 0), flat.symmetries(), flat.symmetry(0, 0),
            flat.turn(0), flat.order(0), flat.regular()};
        for (int k = 0; k < answers.length; k++) {
            due("flat, the answer at place " + k, answers[k], -3);
        }
        long[] longs = {flat.normal(0, 0), flat.normal(0, 3), flat.volume(), flat.middle(0, 0), flat.middle(0, 1),
            flat.cutAt(0, 0, 0), flat.far(0, 0, 1, 0), flat.far(0, 0, 1, 1)};
        for (int k = 0; k < longs.length; k++) {
            due("flat, the long at place " + k, longs[k], NOTHING);
        }
    }

    private static void notAmongTheOthers() {
        SolidRows solid = of(0, 0, 0, 4, 0, 0, 0, 4, 0, 0, 0, 4);
        due("four", solid.corners(), 0b1111);
        add(solid, 1, 1, 1);
        due("within", solid.corners(), 0b1111);
        add(solid, 2, 0, 0, 1, 0, 0, 3, 0, 0);
        due("on an edge", solid.corners(), 0b1111);
        add(solid, 1, 1, 0, 2, 1, 1);
        due("in a face", solid.corners(), 0b1111);
        add(solid, 0, 0, -1);
        due("outside, just behind a corner", solid.corners(), 0b10000001110);
        SolidRows narrow = of(0, 0, 0, 1, 0, 0, 0, 1, 0, -1, 0, 0, 0, -1, 0, 0, 0, 1);
        due("point 0 in a face, the corners about it as near as can be", narrow.corners(), 0b111110);
        due("its faces", narrow.faces(), 5);
        due("the face about it", narrow.size(1), 4);
        SolidRows late = of(1, 1, 1, 0, 0, 0, 2, 0, 0, 0, 2, 0, 0, 0, 2);
        due("a corner", late.corners(), 0b11111);
        add(late, 2, 2, 2);
        due("that lies between two others now", late.corners(), 0b111110);
    }

    private static void threeCornersNotOnOneLine() {
        SolidRows edge = of(-4, 0, 0, 4, 0, 0, 0, 5, 0, 0, 0, 7, -1, 0, 0, 2, 0, 0, 0, 0, 0);
        due("points on an edge, faces()", edge.faces(), 4);
        due("points on an edge, edges()", edge.edges(), 6);
        for (int face = 0; face < 4; face++) {
            due("points on an edge, size()", edge.size(face), 3);
        }
        due("the fewest faces", of(BODY).faces(), 4);
        due("the most", of(BOWS).faces(), 24);
    }

    private static void allCornersOfThatPlane() {
        SolidRows solid = of(2, 2, 2, 2, 2, -2, 2, -2, 2, 2, -2, -2, -2, 2, 2, -2, 2, -2, -2, -2, 2, -2, -2, -2,
            2, 0, 0, 2, 2, 0, 0, 0, 0, 2, 1, 1, -2, -2, 1, 0, 0, -2);
        due("faces()", solid.faces(), 6);
        for (int face = 0; face < 6; face++) {
            due("points in the plane that are no corners, size()", solid.size(face), 4);
        }
        due("thirteen in one plane", of(TENT).size(1), 13);
    }

    private static void lastAndFirst() {
        for (int[] numbers : SOLIDS) {
            SolidRows solid = of(numbers);
            for (int face = 0; face < solid.faces(); face++) {
                round(solid, numbers, face);
            }
        }
    }

    private static void round(SolidRows solid, int[] numbers, int face) {
        int n = solid.size(face);
        long[] out = {solid.normal(face, 0), solid.normal(face, 1), solid.normal(face, 2)};
        for (int k = 0; k < n; k++) {
            int p = solid.at(face, k);
            int q = solid.at(face, (k + 1) % n);
            due("the least is the first", p < solid.at(face, 0), false);
            for (int j = 2; j < n; j++) {
                int r = solid.at(face, (k + j) % n);
                long[] way = cross(minus(numbers, q, p), minus(numbers, r, p));
                due("(q - p) x (r - p) points out", dot(way, out) > 0, true);
            }
            for (int r = 0; r < numbers.length / 3; r++) {
                due("out is where no point lies", dot(minus(numbers, r, p), out) <= 0, true);
            }
        }
    }

    private static void facesInOrder() {
        for (int[] numbers : SOLIDS) {
            SolidRows solid = of(numbers);
            for (int face = 1; face < solid.faces(); face++) {
                int k = 0;
                while (k < solid.size(face) && solid.at(face - 1, k) == solid.at(face, k)) {
                    k++;
                }
                due("the lesser comes first", solid.at(face - 1, k) < solid.at(face, k), true);
            }
        }
        SolidRows tent = of(TENT);
        int[][] begin = {{0, 1}, {0, 12}, {0, 13}, {1, 2}, {2, 3}};
        for (int face = 0; face < begin.length; face++) {
            due("at(" + face + ", 0)", tent.at(face, 0), begin[face][0]);
            due("at(" + face + ", 1)", tent.at(face, 1), begin[face][1]);
        }
    }

    private static void edgesHaveTwoFaces() {
        for (int[] numbers : SOLIDS) {
            SolidRows solid = of(numbers);
            int[][] times = new int[14][14];
            int sides = 0;
            for (int face = 0; face < solid.faces(); face++) {
                int n = solid.size(face);
                for (int k = 0; k < n; k++) {
                    times[solid.at(face, k)][solid.at(face, (k + 1) % n)]++;
                    sides++;
                }
            }
            for (int p = 0; p < 14; p++) {
                for (int q = 0; q < p; q++) {
                    due("each way as often as the other", times[p][q], times[q][p]);
                    boolean corners = has(solid.corners(), p) && has(solid.corners(), q);
                    boolean edge = corners && solid.way(p, q) == 1;
                    due("once for an edge", times[p][q], edge ? 1 : 0);
                }
            }
            due("edges()", solid.edges(), sides / 2);
        }
    }

    private static void noCommonDivisor() {
        SolidRows great = of(GREAT);
        for (int face = 0; face < 6; face++) {
            long sum = 0;
            for (int axis = 0; axis < 3; axis++) {
                sum += Math.abs(great.normal(face, axis));
            }
            due("1 and twice 0", sum, 1);
            due("its level", great.normal(face, 3), 20);
        }
        SolidRows solid = of(-20, -20, -20, 20, 19, -20, -20, 20, 19, -20, 20, -20);
        long[] large = {1521, -1560, 1600, -31220};
        for (int what = 0; what < 4; what++) {
            due("a large one, " + what, solid.normal(0, what), large[what]);
        }
        SolidRows pyramid = of(PYRAMID);
        due("0, 4, 3: X", pyramid.normal(0, 0), 0);
        due("0, 4, 3: Y", pyramid.normal(0, 1), 4);
        due("0, 4, 3: Z", pyramid.normal(0, 2), 3);
    }

    private static void levels() {
        SolidRows aside = of(5, 5, 5, 6, 5, 5, 5, 6, 5, 5, 5, 6);
        due("below 0", aside.normal(0, 3), -5);
        due("0", of(BODY).normal(0, 3), 0);
        for (int[] numbers : SOLIDS) {
            SolidRows solid = of(numbers);
            for (int face = 0; face < solid.faces(); face++) {
                long[] out = {solid.normal(face, 0), solid.normal(face, 1), solid.normal(face, 2)};
                for (int k = 0; k < solid.size(face); k++) {
                    int p = solid.at(face, k);
                    long[] spot = {numbers[3 * p], numbers[3 * p + 1], numbers[3 * p + 2]};
                    due("any corner of it will do", dot(out, spot), solid.normal(face, 3));
                }
            }
        }
    }

    private static void betweenNoTwoOthers() {
        SolidRows solid = of(2, 2, 2, 2, 2, -2, 2, -2, 2, 2, -2, -2, -2, 2, 2, -2, 2, -2, -2, -2, 2, -2, -2, -2,
            2, 0, 0, 2, 2, 0, 0, 0, 0, 0, 2, 2);
        due("a face with points in it and on its edges", solid.cut(1, 0, 0, 2), 4);
        due("an edge with a point on it", solid.cut(1, 1, 0, 4), 2);
        due("a corner", solid.cut(1, 1, 1, 6), 1);
        due("through two edges, full length", solid.cut(1, -1, 0, 0), 4);
        due("through points that are no corners", solid.cut(0, 0, 1, 0), 4);
        due("the most", of(BOWS).cut(0, 0, 1, 0), 24);
    }

    private static void cutInOrder() {
        SolidRows solid = of(BOWS);
        solid.cut(0, 0, 1, 0);
        long[][] first = {{-30, 11, 0, 1}, {-27, 10, -1, 10}, {-27, 10, 1, 10}, {-18, 7, -2, 7}, {-18, 7, 2, 7}};
        for (int i = 0; i < first.length; i++) {
            for (int axis = 0; axis < 2; axis++) {
                due("cutAt(" + i + ", " + axis + ", 0)", solid.cutAt(i, axis, 0), first[i][2 * axis]);
                due("cutAt(" + i + ", " + axis + ", 1)", solid.cutAt(i, axis, 1), first[i][2 * axis + 1]);
                due("cutAt(" + (23 - i) + ", " + axis + ", 0)", solid.cutAt(23 - i, axis, 0), -first[i][2 * axis]);
                due("cutAt(" + (23 - i) + ", " + axis + ", 1)", solid.cutAt(23 - i, axis, 1), first[i][2 * axis + 1]);
            }
        }
        SolidRows cube = of(CUBE);
        cube.cut(1, 0, 0, 1);
        for (int i = 0; i < 4; i++) {
            due("by Y where X is the same", cube.cutAt(i, 1, 0), i < 2 ? -1 : 1);
            due("by Z where X, Y are the same", cube.cutAt(i, 2, 0), i % 2 == 0 ? -1 : 1);
        }
        SolidRows skew = of(SKEW);
        due("X = 0", skew.cut(1, 0, 0, 0), 3);
        long[][] fifthsAndThirds = {{0, 1, 0, 1, 51, 5}, {0, 1, 0, 1, 34, 3}, {0, 1, 5, 1, 10, 1}};
        for (int k = 0; k < 18; k++) {
            due("place " + k, skew.cutAt(k / 6, k % 6 / 2, k % 2), fifthsAndThirds[k / 6][k % 6]);
        }
        for (int[] numbers : SOLIDS) {
            for (int d = -4; d <= 4; d++) {
                int[][] planes = {{2, 0, 0}, {0, 2, 0}, {0, 0, 2}, {1, 1, 0}, {1, 0, -2}, {0, 3, 1}, {1, 2, 3}};
                for (int[] n : planes) {
                    ordered(of(numbers), n[0], n[1], n[2], d);
                }
            }
        }
    }

    private static void ordered(SolidRows solid, int a, int b, int c, int d) {
        int count = solid.cut(a, b, c, d);
        for (int i = 1; i < count; i++) {
            long byAxis = 0;
            for (int axis = 0; axis < 3 && byAxis == 0; axis++) {
                byAxis = solid.cutAt(i, axis, 0) * solid.cutAt(i - 1, axis, 1)
                    - solid.cutAt(i - 1, axis, 0) * solid.cutAt(i, axis, 1);
            }
            due("cut(" + a + ", " + b + ", " + c + ", " + d + "), corner " + i + " comes behind", byAxis > 0, true);
        }
        for (int i = 0; i < count; i++) {
            // Times both other numbers below it stays whole.
            long x = solid.cutAt(i, 0, 1);
            long y = solid.cutAt(i, 1, 1);
            long z = solid.cutAt(i, 2, 1);
            long sum = a * solid.cutAt(i, 0, 0) * y * z + b * solid.cutAt(i, 1, 0) * x * z
                + c * solid.cutAt(i, 2, 0) * x * y;
            due("a X + b Y + c Z", sum, d * x * y * z);
        }
    }

    private static void takenAsOne() {
        due("a cube along its edges", of(CUBE).shadow(0, 0, 1), 4);
        due("a cube along a diagonal through it", of(CUBE).shadow(1, 1, 1), 6);
        due("a cube along a diagonal of a face", of(CUBE).shadow(1, -1, 0), 4);
        due("a body along an edge", of(BODY).shadow(0, 0, 1), 3);
        due("the most", of(CROWN).shadow(0, 0, 1), 14);
        due("a rim of thirteen", of(TENT).shadow(0, 0, 1), 13);
        // From aside some corners come to lie between two others.
        due("bows from aside", of(BOWS).shadow(1, 0, 0), 8);
        due("a tower from the side", of(TOWER).shadow(0, 1, 0), 10);
        due("backwards it is the same", of(CROWN).shadow(0, 0, -20), 14);
    }

    private static void asFarAsBefore() {
        for (int[] numbers : SOLIDS) {
            int count = of(numbers).symmetries();
            for (int i = 0; i < count; i++) {
                SolidRows solid = of(numbers);
                int[] image = new int[14];
                int got = 0;
                for (int p = 0; p < numbers.length / 3; p++) {
                    image[p] = solid.symmetry(i, p);
                    got |= image[p] < 0 ? 0 : 1 << image[p];
                }
                due("no two get the same one", got, solid.corners());
                apart(numbers, image);
            }
        }
    }

    private static void apart(int[] numbers, int[] image) {
        for (int p = 0; p < numbers.length / 3; p++) {
            for (int q = 0; q < p; q++) {
                if (image[p] >= 0 && image[q] >= 0) {
                    long[] before = minus(numbers, p, q);
                    long[] after = minus(numbers, image[p], image[q]);
                    due("how far " + p + " is from " + q, dot(after, after), dot(before, before));
                }
            }
        }
    }

    private static void elseMirroring() {
        due("nothing moves: a turn", of(BODY).turn(0), 1);
        SolidRows body = of(0, 0, 0, 1, 0, 0, 0, 1, 0, 0, 0, 5);
        due("two, one of them mirrors", body.symmetries(), 2);
        due("changes 1 and 2", body.symmetry(1, 1), 2);
        due("by mirroring", body.turn(1), 0);
        SolidRows cube = of(CUBE);
        int turns = 0;
        for (int i = 0; i < 48; i++) {
            turns += cube.turn(i);
        }
        due("half of them are turns", turns, 24);
        due("all corners to the other end: no turn", cube.turn(47), 0);
    }

    private static void symmetriesInOrder() {
        for (int[] numbers : new int[][] {CUBE, OCTAHEDRON, PYRAMID, TOWER}) {
            SolidRows solid = of(numbers);
            for (int k = 0; k < numbers.length / 3; k++) {
                boolean corner = has(solid.corners(), k);
                due("the first moves nothing", solid.symmetry(0, k), corner ? k : -1);
            }
            int count = solid.symmetries();
            for (int i = 1; i < count; i++) {
                SolidRows fresh = of(numbers);
                int k = 0;
                while (k < 13 && fresh.symmetry(i - 1, k) == fresh.symmetry(i, k)) {
                    k++;
                }
                due("the lesser first", fresh.symmetry(i - 1, k) < fresh.symmetry(i, k), true);
            }
        }
    }

    private static void eachTwoFlags() {
        due("an octahedron", of(OCTAHEDRON).regular(), 1);
        due("the greatest cube", of(GREAT).regular(), 1);
        due("a tetrahedron", of(1, 1, 1, 1, -1, -1, -1, 1, -1, -1, -1, 1).regular(), 1);
        // All faces alike and all corners alike, but not all edges.
        due("alike faces alone", of(1, 2, 3, 1, -2, -3, -1, 2, -3, -1, -2, 3).regular(), 0);
        SolidRows brick = of(0, 0, 0, 1, 0, 0, 0, 1, 0, 1, 1, 0, 0, 0, 2, 1, 0, 2, 0, 1, 2, 1, 1, 2);
        due("two kinds of faces", brick.regular(), 0);
        SolidRows rhombic = of(OCTAHEDRON);
        add(rhombic, CUBE);
        due("48 symmetries", rhombic.symmetries(), 48);
        due("but 96 flags", 4 * rhombic.edges(), 96);
        due("a rhombic dodecahedron", rhombic.regular(), 0);
        SolidRows cut = of(1, 1, 0, 1, -1, 0, -1, 1, 0, -1, -1, 0, 1, 0, 1, 1, 0, -1, -1, 0, 1, -1, 0, -1,
            0, 1, 1, 0, 1, -1, 0, -1, 1, 0, -1, -1);
        due("alike edges and corners, two kinds of faces", cut.regular(), 0);
    }

    private static void lowestTerms() {
        SolidRows body = of(-2, 0, 0, 2, 0, 0, 0, 2, 0, 0, 0, -2);
        due("0 above", body.middle(0, 0), 0);
        due("1 below", body.middle(0, 1), 1);
        due("1 / 2", body.middle(1, 0), 1);
        due("1 / 2", body.middle(1, 1), 2);
        due("-1 / 2, what is below is above 0", body.middle(2, 0), -1);
        due("-1 / 2, what is below is above 0", body.middle(2, 1), 2);
        due("a cut", body.cut(0, 0, -4, 2), 3);
        due("-1 / 2 in a cut", body.cutAt(0, 2, 0), -1);
        due("-1 / 2 in a cut", body.cutAt(0, 2, 1), 2);
        due("-3 / 2 in a cut", body.cutAt(0, 0, 0), -3);
        due("-3 / 2 in a cut", body.cutAt(0, 0, 1), 2);
        due("0 in a cut", body.cutAt(0, 1, 0), 0);
        due("0 in a cut", body.cutAt(0, 1, 1), 1);
        due("a whole number in a cut", body.cut(0, 0, 1, -2), 1);
        due("-2 / 1", body.cutAt(0, 2, 0), -2);
        due("-2 / 1", body.cutAt(0, 2, 1), 1);
    }

    private static void changeNothing() {
        SolidRows solid = of(PYRAMID);
        solid.cut(0, 0, 1, 1);
        solid.symmetries();
        long[] refused = {solid.point(0, 0, 21), solid.point(0, 0, 4), solid.size(5), solid.at(5, 0), solid.at(0, 3),
            solid.where(0, 0, 0, 0), solid.cut(0, 0, 0, 1), solid.cut(0, 0, 1, 2001), solid.shadow(0, 0, 0),
            solid.way(0, 1), solid.symmetry(8, 1), solid.symmetry(0, 0), solid.turn(8), solid.order(-1)};
        for (long answer : refused) {
            due("refused", answer < 0, true);
        }
        due("the cut", solid.cutAt(3, 0, 0), 9);
        due("and no more of it", solid.cutAt(4, 0, 0), NOTHING);
        due("the corners", solid.corners(), 62);
        due("the symmetries", solid.symmetries(), 8);
        due("the next number", solid.point(0, 0, 5), 6);
        due("how many points", solid.clear(), 7);
    }

    private static void whatRefusalsAnswer() {
        SolidRows solid = of(BOWS);
        due("no such corner", solid.way(0, 14), -1);
        due("no such face", solid.size(24), -1);
        due("no such symmetry", solid.turn(8), -1);
        due("no such place", solid.at(0, 3), -1);
        due("outside its bounds", solid.point(21, 0, 0), -2);
        due("outside its bounds", solid.cut(0, 0, 1, 2001), -2);
        due("no room", solid.point(20, 0, 0), -4);
        due("flat", of(RING).corners(), -3);
    }

    private static void firstThatFits() {
        SolidRows full = of(BOWS);
        due("-2 before -4", full.point(0, 0, 21), -2);
        due("-3 before -4", full.point(0, 0, 10), -3);
        due("-4", full.point(0, 0, 11), -4);
        SolidRows flat = of(RING);
        due("-2 before -4, flat", flat.point(-21, 0, 0), -2);
        due("-3 before -4, flat", flat.point(0, 0, 0), -3);
        due("-4, flat", flat.point(0, 0, 1), -4);
        due("-3 before -1: size", flat.size(-1), -3);
        due("-3 before -1: at", flat.at(24, 14), -3);
        due("-3 before -2: where", flat.where(100001, 0, 0, 0), -3);
        due("-3 before -2: cut", flat.cut(0, 0, 0, 2001), -3);
        due("-3 before -2: shadow", flat.shadow(21, 0, 0), -3);
        due("-3 before -1: way", flat.way(14, -1), -3);
        due("-3 before -1: symmetry", flat.symmetry(48, 14), -3);
        due("-3 before -1: turn", flat.turn(-1), -3);
        due("-3 before -1: order", flat.order(48), -3);
    }

    private static void nothingForLongs() {
        SolidRows solid = of(CUBE);
        due("NOTHING", SolidRows.NOTHING, NOTHING);
        due("no such face", solid.normal(6, 0), NOTHING);
        due("no such axis", solid.middle(3, 0), NOTHING);
        due("no cut", solid.cutAt(0, 0, 0), NOTHING);
        due("out of bounds", solid.far(21, 0, 0, 0), NOTHING);
        SolidRows flat = of(RING);
        due("flat, no such face", flat.normal(-1, 9), NOTHING);
        due("flat", flat.volume(), NOTHING);
        due("flat, no such axis", flat.middle(-1, 2), NOTHING);
        due("flat, out of bounds", flat.far(0, 0, 0, 2), NOTHING);
    }

    // ---- promises

    private static void noPoints() {
        due("clear()", new SolidRows().clear(), 0);
        nothingTold(new SolidRows());
        due("the first is number 0", new SolidRows().point(0, 0, 0), 0);
        SolidRows one = of(CUBE);
        SolidRows other = new SolidRows();
        due("another object's points are not its own", other.point(1, 1, 1), 0);
        due("nor the other way round", one.clear(), 8);
    }

    private static void itsNumber() {
        SolidRows solid = new SolidRows();
        due("0", solid.point(-20, -20, -20), 0);
        due("refused", solid.point(-20, -20, -21), -2);
        due("refused", solid.point(-20, -20, -20), -3);
        due("1, refused ones don't count", solid.point(20, 20, 20), 1);
        for (int k = 2; k < 14; k++) {
            due("point(k, 0, 0)", solid.point(k, 0, 0), k);
        }
    }

    private static void pointRefused() {
        SolidRows solid = of(1, 1, 1);
        for (int n : WRAPS) {
            due("x", solid.point(n, 0, 0), -2);
            due("y", solid.point(0, n, 0), -2);
            due("z", solid.point(0, 0, n), -2);
        }
        for (int n : new int[] {-21, 21}) {
            due("x alone", solid.point(n, 20, 20), -2);
            due("y alone", solid.point(20, n, 20), -2);
            due("z alone", solid.point(20, 20, n), -2);
            due("all", solid.point(n, n, n), -2);
        }
        due("one like it", solid.point(1, 1, 1), -3);
        for (int k = 1; k < 14; k++) {
            due("room", solid.point(k, k, 0), k);
        }
        due("no room", solid.point(14, 14, 0), -4);
        due("one like the last, no room", solid.point(13, 13, 0), -3);
        due("out of bounds, no room", solid.point(21, 14, 0), -2);
    }

    private static void howManyThereWere() {
        SolidRows solid = new SolidRows();
        due("empty", solid.clear(), 0);
        due("empty again", solid.clear(), 0);
        add(solid, 1, 1, 1);
        due("one", solid.clear(), 1);
        add(solid, BOWS);
        due("full", solid.clear(), 14);
        add(solid, PYRAMID);
        due("all points count, not the corners alone", solid.clear(), 6);
        due("empty again", solid.clear(), 0);
    }

    private static void noPointsAnyMore() {
        SolidRows solid = of(BOWS);
        solid.symmetries();
        solid.cut(0, 0, 1, 0);
        due("clear()", solid.clear(), 14);
        nothingTold(solid);
        for (int k = 0; k < 14; k++) {
            due("one like an earlier one, from 0", solid.point(BOWS[3 * k], BOWS[3 * k + 1], BOWS[3 * k + 2]), k);
        }
        due("all is told anew", solid.corners(), 16383);
        solid.clear();
        add(solid, CUBE);
        due("faces()", solid.faces(), 6);
        due("edges()", solid.edges(), 12);
        due("volume()", solid.volume(), 48);
        due("symmetries()", solid.symmetries(), 48);
        due("no earlier corner", solid.way(0, 13), -1);
        due("no earlier corner", solid.symmetry(0, 8), -1);
        due("corners()", solid.corners(), 255);
        for (int k = 0; k < 8; k++) {
            due("ways along the new edges", solid.way(0, k), Integer.bitCount(k));
        }
        solid.clear();
        add(solid, TENT);
        solid.clear();
        add(solid, OCTAHEDRON);
        due("no earlier corner weighs", solid.volume(), 64);
        due("no earlier corner weighs", solid.middle(1, 0), 0);
        due("no earlier corner in a face", solid.at(0, 3), -1);
    }

    private static void flatOrNot() {
        SolidRows solid = of(PYRAMID);
        due("flat()", solid.flat(), false);
        solid.clear();
        due("empty", solid.flat(), true);
        add(solid, Arrays.copyOf(PYRAMID, 15));
        due("the ground alone", solid.flat(), true);
        due("refused", solid.point(0, 0, 21), -2);
        due("still", solid.flat(), true);
        due("full and flat", of(RING).flat(), true);
        due("full", of(BOWS).flat(), false);
    }

    private static void asBits() {
        due("the fewest", of(BODY).corners(), 15);
        due("all 14", of(BOWS).corners(), 16383);
        due("without bit 0", of(PYRAMID).corners(), 62);
        SolidRows within = of(2, 2, 2, 2, 2, -2, 2, -2, 2, 2, -2, -2, -2, 2, 2, -2, 2, -2, -2, -2, 2, -2, -2, -2,
            1, 0, 0, 0, 1, 0, 0, 0, 1, 0, 0, 0, 1, 1, 1);
        add(within, 3, 0, 0);
        due("bit 13 alone of the late ones", within.corners(), 255 | 1 << 13);
        for (int[] numbers : FLATS) {
            due("flat", of(numbers).corners(), -3);
        }
    }

    private static void howManyEdges() {
        due("the fewest", of(BODY).edges(), 6);
        due("the most", of(BOWS).edges(), 36);
        due("a tent", of(TENT).edges(), 26);
        due("a tower", of(TOWER).edges(), 27);
        for (int[] numbers : FLATS) {
            due("flat", of(numbers).edges(), -3);
        }
    }

    private static void howManyFaces() {
        due("the fewest", of(BODY).faces(), 4);
        due("the most", of(BOWS).faces(), 24);
        due("a tent", of(TENT).faces(), 14);
        due("a tower", of(TOWER).faces(), 15);
        for (int[] numbers : FLATS) {
            due("flat", of(numbers).faces(), -3);
        }
    }

    private static void sizeRefused() {
        for (int[] numbers : SOLIDS) {
            SolidRows solid = of(numbers);
            int last = solid.faces() - 1;
            due("the first", solid.size(0) >= 3, true);
            due("the last", solid.size(last) >= 3, true);
            due("behind the last", solid.size(last + 1), -1);
            due("before the first", solid.size(-1), -1);
            for (int n : WRAPS) {
                due("size(" + n + ")", solid.size(n), -1);
            }
        }
        SolidRows shrunk = of(BOWS);
        due("face 23", shrunk.size(23), 3);
        due("face 24", shrunk.size(24), -1);
        shrunk.clear();
        add(shrunk, BODY);
        due("face 3", shrunk.size(3), 3);
        due("an earlier solid's face", shrunk.size(4), -1);
        for (int[] numbers : FLATS) {
            due("flat", of(numbers).size(0), -3);
            due("flat, no such face", of(numbers).size(-1), -3);
        }
    }

    private static void howManyCornersAFaceHas() {
        SolidRows tent = of(TENT);
        due("three", tent.size(0), 3);
        due("thirteen", tent.size(1), 13);
        due("three", tent.size(13), 3);
        due("four", of(CUBE).size(5), 4);
    }

    private static void placeFrom0() {
        SolidRows tent = of(TENT);
        due("place 0", tent.at(1, 0), 0);
        for (int k = 1; k < 13; k++) {
            due("place " + k, tent.at(1, k), 13 - k);
        }
        due("a triangle's last", tent.at(13, 2), 13);
    }

    private static void atRefused() {
        SolidRows tent = of(TENT);
        due("it does not begin again", tent.at(1, 13), -1);
        due("nor go backwards", tent.at(1, -1), -1);
        due("a smaller face", tent.at(0, 3), -1);
        due("the last face", tent.at(13, 3), -1);
        due("no such face", tent.at(14, 0), -1);
        due("no such face", tent.at(-1, 0), -1);
        due("neither", tent.at(14, 13), -1);
        for (int n : WRAPS) {
            due("at(" + n + ", 0)", tent.at(n, 0), -1);
            due("at(1, " + n + ")", tent.at(1, n), -1);
        }
        for (int[] numbers : FLATS) {
            due("flat", of(numbers).at(0, 0), -3);
            due("flat, none such", of(numbers).at(24, -1), -3);
        }
    }

    private static void normalNothing() {
        SolidRows solid = of(BOWS);
        due("the last face", solid.normal(23, 2) == NOTHING, false);
        due("behind it", solid.normal(24, 2), NOTHING);
        due("before the first", solid.normal(-1, 0), NOTHING);
        due("what 4", solid.normal(0, 4), NOTHING);
        due("what -1", solid.normal(0, -1), NOTHING);
        for (int n : WRAPS) {
            due("normal(" + n + ", 0)", solid.normal(n, 0), NOTHING);
            due("normal(0, " + n + ")", solid.normal(0, n), NOTHING);
        }
        for (int[] numbers : FLATS) {
            for (int what = -1; what < 5; what++) {
                due("flat", of(numbers).normal(0, what), NOTHING);
            }
        }
    }

    private static void normalWhat() {
        SolidRows pyramid = of(PYRAMID);
        long[][] rows = {{0, 4, 3, 12}, {0, 0, -1, 0}, {4, 0, 3, 12}, {-4, 0, 3, 12}, {0, -4, 3, 12}};
        for (int face = 0; face < rows.length; face++) {
            for (int what = 0; what < 4; what++) {
                due("normal(" + face + ", " + what + ")", pyramid.normal(face, what), rows[face][what]);
            }
        }
    }

    private static void sixTimesTheVolume() {
        due("the least", of(0, 0, 0, 1, 0, 0, 0, 1, 0, 0, 0, 1).volume(), 1);
        due("the greatest", of(GREAT).volume(), 384000);
        due("below 0 it is the same", of(-20, -20, -20, -19, -20, -20, -20, -19, -20, -20, -20, -19).volume(), 1);
        due("point 0 in the midst", of(0, 0, 0, 2, 0, 0, -2, 0, 0, 0, 2, 0, 0, -2, 0, 0, 0, 2, 0, 0, -2).volume(), 64);
        due("a tower", of(TOWER).volume(), 6 * (2 * 18 * 3 / 3 + 2 * (18 + 36 + 72) * 2 + 72 * 6));
        for (int[] numbers : FLATS) {
            due("flat", of(numbers).volume(), NOTHING);
        }
    }

    private static void middleNothing() {
        SolidRows solid = of(BODY);
        long[][] rows = {{1, 4}, {1, 2}, {5, 4}};
        for (int axis = 0; axis < 3; axis++) {
            for (int part = 0; part < 2; part++) {
                due("middle(" + axis + ", " + part + ")", solid.middle(axis, part), rows[axis][part]);
            }
            due("part 2", solid.middle(axis, 2), NOTHING);
            due("part -1", solid.middle(axis, -1), NOTHING);
        }
        for (int part = 0; part < 2; part++) {
            due("axis 3", solid.middle(3, part), NOTHING);
            due("axis -1", solid.middle(-1, part), NOTHING);
            for (int n : WRAPS) {
                due("middle(" + n + ", part)", solid.middle(n, part), NOTHING);
                due("middle(part, " + n + ")", solid.middle(part, n), NOTHING);
            }
        }
        for (int[] numbers : FLATS) {
            due("flat", of(numbers).middle(0, 0), NOTHING);
            due("flat", of(numbers).middle(2, 1), NOTHING);
        }
    }

    private static void inBalance() {
        // The mean of all points lies elsewhere.
        SolidRows solid = of(0, 0, 0, 20, 0, 0, 0, 20, 0, 0, 0, 20, 1, 0, 0, 2, 0, 0, 3, 0, 0);
        for (int axis = 0; axis < 3; axis++) {
            due("points that are no corners weigh nothing", solid.middle(axis, 0), 5);
            due("points that are no corners weigh nothing", solid.middle(axis, 1), 1);
        }
        SolidRows pyramid = of(PYRAMID);
        due("a quarter of its height", pyramid.middle(2, 0), 1);
        due("a quarter of its height", pyramid.middle(2, 1), 1);
        SolidRows edge = of(20, 20, 20, 19, 20, 20, 20, 19, 20, 20, 20, 19);
        due("at the edge of the bounds", edge.middle(0, 0), 79);
        due("at the edge of the bounds", edge.middle(0, 1), 4);
    }

    private static void withinOnOutside() {
        SolidRows great = of(GREAT);
        int[] signs = {-1, 1};
        for (int s : signs) {
            due("a corner", great.where(20000 * s, 20000 * s, 20000 * s, 1000), 1);
            due("just within it", great.where(19999 * s, 19999 * s, 19999 * s, 1000), 2);
            due("just outside in X", great.where(20001 * s, 20000 * s, 20000 * s, 1000), 0);
            due("just outside in Y", great.where(20000 * s, 20001 * s, 20000 * s, 1000), 0);
            due("just outside in Z", great.where(20000 * s, 20000 * s, 20001 * s, 1000), 0);
            due("on an edge", great.where(20000 * s, 0, 20000 * s, 1000), 1);
            due("in a face", great.where(0, 20000 * s, 1, 1000), 1);
            due("just behind a face", great.where(0, 19999 * s, 1, 1000), 2);
            due("just before a face", great.where(0, 20001 * s, 1, 1000), 0);
            due("in the plane of a face, outside", great.where(20 * s, 21 * s, 0, 1), 0);
        }
        due("a point that is no corner", of(PYRAMID).where(0, 0, 0, 1), 1);
        due("the middle", great.where(0, 0, 0, 1000), 2);
        SolidRows body = of(BODY);
        due("X alone too far", body.where(11, 1, 1, 10), 0);
        due("Y alone too far", body.where(1, 21, 1, 10), 0);
        due("Z alone too far", body.where(1, 1, 51, 10), 0);
        due("on the face that looks all ways: X / 1 + Y / 2 + Z / 5 = 1", body.where(2, 8, 20, 10), 1);
        due("just within", body.where(2, 8, 19, 10), 2);
        due("just outside", body.where(2, 8, 21, 10), 0);
        due("just within by Y", body.where(2, 7, 20, 10), 2);
        due("just outside by Y", body.where(2, 9, 20, 10), 0);
    }

    private static void whereBounds() {
        SolidRows solid = of(GREAT);
        due("down 1", solid.where(0, 0, 0, 1), 2);
        due("down 1000", solid.where(0, 0, 0, 1000), 2);
        due("down 0", solid.where(0, 0, 0, 0), -2);
        due("down -1", solid.where(0, 0, 0, -1), -2);
        due("down 1001", solid.where(0, 0, 0, 1001), -2);
        due("down -1000", solid.where(0, 0, 0, -1000), -2);
        int[][] axes = {{1, 0, 0}, {0, 1, 0}, {0, 0, 1}};
        for (int[] u : axes) {
            for (int s = -1; s <= 1; s += 2) {
                int in = 100000 * s;
                int out = 100001 * s;
                due("100000", solid.where(in * u[0], in * u[1], in * u[2], 1000), 0);
                due("100000, down 1", solid.where(in * u[0], in * u[1], in * u[2], 1), 0);
                due("100001", solid.where(out * u[0], out * u[1], out * u[2], 1000), -2);
            }
            for (int n : new int[] {LOW, HIGH, LOW + 1, 1 << 30, -1 << 30, 1 << 17}) {
                due("far off", solid.where(n * u[0], n * u[1], n * u[2], 1000), -2);
            }
        }
        for (int n : new int[] {LOW, HIGH, LOW + 1, 1 << 30, 65537}) {
            due("down", solid.where(0, 0, 0, n), -2);
        }
        due("all at once", solid.where(100000, -100000, 100000, 1), 0);
        for (int[] numbers : FLATS) {
            due("flat", of(numbers).where(0, 0, 0, 1), -3);
            due("flat, down 0", of(numbers).where(0, 0, 0, 0), -3);
            due("flat, too far", of(numbers).where(100001, 0, 0, 1), -3);
        }
    }

    private static void howManyCornersItHas() {
        SolidRows great = of(GREAT);
        due("a corner", great.cut(20, 20, 20, 1200), 1);
        due("before it", great.cut(20, 20, 20, 1199), 3);
        due("none behind it", great.cut(20, 20, 20, 1201), 0);
        due("the other end", great.cut(20, 20, 20, -1200), 1);
        due("none behind it", great.cut(20, 20, 20, -1201), 0);
        due("an edge", great.cut(1, 1, 0, 40), 2);
        due("none behind it", great.cut(1, 1, 0, 41), 0);
        due("a face", great.cut(0, 0, -1, 20), 4);
        due("none behind it", great.cut(0, 0, -1, 21), 0);
        due("a multiple that has no whole points", great.cut(2, 0, 0, 1), 4);
        due("1 below a top", of(BODY).cut(0, 0, 1, 4), 3);
        due("1 above a ground", of(BODY).cut(0, 0, 1, 1), 3);
        due("1 below a top with a lesser number", of(renumbered(BODY, 3)).cut(0, 0, 1, 4), 3);
        due("1 above a ground with greater ones", of(renumbered(BODY, 3)).cut(0, 0, 1, 1), 3);
        due("the most", of(BOWS).cut(0, 0, 1, 0), 24);
        due("13 at once", of(TENT).cut(0, 0, 1, 0), 13);
        due("13 edges at once", of(TENT).cut(0, 0, 20, 1), 13);
    }

    private static void cutBounds() {
        SolidRows solid = of(GREAT);
        due("all 0", solid.cut(0, 0, 0, 0), -2);
        due("all 0", solid.cut(0, 0, 0, 1), -2);
        for (int n : new int[] {-20, 20}) {
            due("a", solid.cut(n, 0, 0, 0), 4);
            due("b", solid.cut(0, n, 0, 0), 4);
            due("c", solid.cut(0, 0, n, 0), 4);
        }
        for (int n : new int[] {-21, 21, LOW, HIGH, LOW + 1, 1 << 30, 65536, -256}) {
            due("a", solid.cut(n, 0, 0, 0), -2);
            due("b", solid.cut(0, n, 0, 0), -2);
            due("c", solid.cut(0, 0, n, 0), -2);
            due("a beside others", solid.cut(n, 1, 1, 0), -2);
            due("b beside others", solid.cut(1, n, 1, 0), -2);
            due("c beside others", solid.cut(1, 1, n, 0), -2);
        }
        due("d 2000", solid.cut(1, 0, 0, 2000), 0);
        due("d -2000", solid.cut(1, 0, 0, -2000), 0);
        for (int n : new int[] {-2001, 2001, LOW, HIGH, LOW + 1, 1 << 30, 65536}) {
            due("d", solid.cut(1, 0, 0, n), -2);
        }
        for (int[] numbers : FLATS) {
            due("flat", of(numbers).cut(1, 0, 0, 0), -3);
            due("flat, all 0", of(numbers).cut(0, 0, 0, 0), -3);
            due("flat, d", of(numbers).cut(1, 0, 0, 2001), -3);
        }
    }

    /** Corner 0 of the cut by X + Y + Z = 0, and that there are six. */
    private static void sixth(String when, SolidRows solid) {
        due(when + ", X of the first", solid.cutAt(0, 0, 0), -1);
        due(when + ", Y of the first", solid.cutAt(0, 1, 0), 0);
        due(when + ", Z of the first", solid.cutAt(0, 2, 0), 1);
        due(when + ", X of the last", solid.cutAt(5, 0, 0), 1);
        due(when + ", behind it", solid.cutAt(6, 0, 0), NOTHING);
    }

    private static void latestNotRefused() {
        SolidRows solid = of(CUBE);
        due("none yet", solid.cutAt(0, 0, 0), NOTHING);
        due("refused", solid.cut(0, 0, 0, 0), -2);
        due("none yet", solid.cutAt(0, 0, 0), NOTHING);
        due("six corners", solid.cut(1, 1, 1, 0), 6);
        sixth("cut", solid);
        due("refused", solid.cut(0, 0, 0, 0), -2);
        due("refused", solid.cut(21, 0, 0, 0), -2);
        due("refused", solid.cut(1, 1, 1, 2001), -2);
        sixth("a refused cut", solid);
        due("four corners", solid.cut(1, 0, 0, 1), 4);
        due("the later one", solid.cutAt(0, 0, 0), 1);
        due("no more than it has", solid.cutAt(4, 0, 0), NOTHING);
        due("one corner", solid.cut(1, 1, 1, 3), 1);
        due("the later one", solid.cutAt(0, 2, 0), 1);
        due("no more than it has", solid.cutAt(1, 0, 0), NOTHING);
        due("six corners", solid.cut(1, 1, 1, 0), 6);
        due("none", solid.cut(1, 1, 1, 4), 0);
        due("the later one", solid.cutAt(0, 0, 0), NOTHING);
    }

    private static void noneBehindPointAndClear() {
        SolidRows solid = of(CUBE);
        solid.cut(1, 1, 1, 0);
        due("refused", solid.point(1, 1, 1), -3);
        due("refused", solid.point(21, 0, 0), -2);
        sixth("a refused point", solid);
        solid.shadow(1, 2, 3);
        solid.far(1, 2, 3, 1);
        solid.where(1, 2, 3, 4);
        solid.symmetries();
        solid.regular();
        solid.way(0, 7);
        solid.middle(0, 0);
        sixth("other calls", solid);
        due("a point within", solid.point(0, 0, 0), 8);
        due("none", solid.cutAt(0, 0, 0), NOTHING);
        due("cut again", solid.cut(1, 1, 1, 0), 6);
        sixth("cut again", solid);
        due("a point outside", solid.point(5, 5, 5), 9);
        due("none", solid.cutAt(0, 0, 0), NOTHING);
        solid.cut(1, 1, 1, 0);
        due("clear()", solid.clear(), 10);
        due("none", solid.cutAt(0, 0, 0), NOTHING);
        due("flat", solid.cut(1, 1, 1, 0), -3);
        due("none", solid.cutAt(0, 0, 0), NOTHING);
        add(solid, CUBE);
        due("the same solid again", solid.cutAt(0, 0, 0), NOTHING);
        SolidRows full = of(BOWS);
        full.cut(0, 0, 1, 0);
        due("no room", full.point(20, 20, 20), -4);
        due("a point without room leaves it", full.cutAt(23, 0, 0), 30);
    }

    private static void cutAtNothing() {
        SolidRows solid = of(BOWS);
        due("24 corners", solid.cut(0, 0, 1, 0), 24);
        due("the first", solid.cutAt(0, 0, 0), -30);
        due("the last", solid.cutAt(23, 0, 0), 30);
        due("behind it", solid.cutAt(24, 0, 0), NOTHING);
        due("before the first", solid.cutAt(-1, 0, 0), NOTHING);
        for (int i = 0; i < 24; i += 23) {
            due("axis 2, part 1", solid.cutAt(i, 2, 1), 1);
            due("axis 3", solid.cutAt(i, 3, 0), NOTHING);
            due("axis -1", solid.cutAt(i, -1, 0), NOTHING);
            due("part 2", solid.cutAt(i, 0, 2), NOTHING);
            due("part -1", solid.cutAt(i, 0, -1), NOTHING);
            for (int n : WRAPS) {
                due("corner", solid.cutAt(n, 0, 0), NOTHING);
                due("axis", solid.cutAt(i, n, 0), NOTHING);
                due("part", solid.cutAt(i, 0, n), NOTHING);
            }
        }
    }

    private static void shadowBounds() {
        SolidRows solid = of(CUBE);
        due("all 0", solid.shadow(0, 0, 0), -2);
        for (int n : new int[] {-20, -1, 1, 20}) {
            due("a", solid.shadow(n, 0, 0), 4);
            due("b", solid.shadow(0, n, 0), 4);
            due("c", solid.shadow(0, 0, n), 4);
            due("all", solid.shadow(n, n, n), 6);
        }
        for (int n : new int[] {-21, 21, LOW, HIGH, LOW + 1, 1 << 30, 65536, -256}) {
            due("a", solid.shadow(n, 0, 0), -2);
            due("b", solid.shadow(0, n, 0), -2);
            due("c", solid.shadow(0, 0, n), -2);
            due("a beside others", solid.shadow(n, 20, 20), -2);
            due("b beside others", solid.shadow(20, n, 20), -2);
            due("c beside others", solid.shadow(20, 20, n), -2);
        }
        for (int[] numbers : FLATS) {
            due("flat", of(numbers).shadow(0, 0, 1), -3);
            due("flat, all 0", of(numbers).shadow(0, 0, 0), -3);
            due("flat, 21", of(numbers).shadow(0, 0, 21), -3);
        }
    }

    private static void howManyCornersTheShadowHas() {
        due("the fewest", of(BODY).shadow(0, 0, 1), 3);
        due("all four", of(BODY).shadow(1, 2, -1), 4);
        due("the most", of(CROWN).shadow(0, 0, 1), 14);
        due("all of 20", of(CROWN).shadow(0, 0, 20), 14);
        due("13", of(TENT).shadow(0, 0, -1), 13);
        due("a great cube", of(GREAT).shadow(20, -19, 18), 6);
    }

    private static void farNothing() {
        SolidRows solid = of(GREAT);
        due("all 0", solid.far(0, 0, 0, 0), NOTHING);
        due("all 0", solid.far(0, 0, 0, 1), NOTHING);
        for (int what = 0; what < 2; what++) {
            for (int n : new int[] {-21, 21, LOW, HIGH, LOW + 1, 1 << 30, 65536, -256}) {
                due("a", solid.far(n, 0, 0, what), NOTHING);
                due("b", solid.far(0, n, 0, what), NOTHING);
                due("c", solid.far(0, 0, n, what), NOTHING);
                due("a beside others", solid.far(n, 1, 1, what), NOTHING);
                due("b beside others", solid.far(1, n, 1, what), NOTHING);
                due("c beside others", solid.far(1, 1, n, what), NOTHING);
            }
        }
        due("what 2", solid.far(1, 0, 0, 2), NOTHING);
        due("what -1", solid.far(1, 0, 0, -1), NOTHING);
        for (int n : WRAPS) {
            due("what", solid.far(1, 0, 0, n), NOTHING);
        }
        for (int[] numbers : FLATS) {
            due("flat", of(numbers).far(1, 0, 0, 0), NOTHING);
            due("flat", of(numbers).far(1, 0, 0, 1), NOTHING);
        }
    }

    private static void greatestOfTheSolid() {
        SolidRows solid = of(GREAT);
        due("the greatest there is", solid.far(20, 20, 20, 0), 1200);
        due("one corner", solid.far(20, 20, 20, 1), 1);
        due("the greatest there is", solid.far(-20, -20, -20, 0), 1200);
        due("the last corner", solid.far(-20, -20, -20, 1), 128);
        due("an edge", solid.far(0, 20, -20, 1), 1 << 1 | 1 << 5);
        due("a face", solid.far(-20, 0, 0, 1), 0b11110000);
        due("bit 13", of(TOWER).far(0, 0, 1, 1), 1 << 13);
        due("thirteen corners", of(TENT).far(0, 0, -1, 1), (1 << 13) - 1);
        due("0", of(TENT).far(0, 0, -20, 0), 0);
        SolidRows below = of(-20, -20, -20, -19, -20, -20, -20, -19, -20, -20, -20, -19);
        due("below 0", below.far(20, 20, 20, 0), -1180);
        due("corners alone, not the point in their midst", of(PYRAMID).far(0, 0, -1, 1), 0b11110);
    }

    private static void fewestEdges() {
        SolidRows tower = of(TOWER);
        due("the longest", tower.way(0, 13), 5);
        due("and back", tower.way(13, 0), 5);
        for (int k = 0; k < 14; k++) {
            due("0 for the same", tower.way(k, k), 0);
        }
        int[] fromTheGround = {0, 1, 1, 1, 2, 2, 2, 3, 3, 3, 4, 4, 4, 5};
        for (int k = 0; k < 14; k++) {
            due("way(0, " + k + ")", tower.way(0, k), fromTheGround[k]);
        }
        SolidRows tent = of(TENT);
        due("the last and the first of a face", tent.way(0, 12), 1);
        due("the last and the first of a face", tent.way(1, 0), 1);
        due("over the top", tent.way(0, 6), 2);
        SolidRows grown = of(4, 0, 0, 0, 4, 0, 0, 0, 0, 0, 0, 4);
        due("an edge", grown.way(0, 1), 1);
        due("a point within", grown.point(1, 1, 1), 4);
        due("still an edge", grown.way(0, 1), 1);
        due("a point beyond the edge", grown.point(3, 3, 0), 5);
        due("no edge any more", grown.way(0, 1), 2);
        due("no edge any more", grown.way(1, 0), 2);
    }

    private static void wayRefused() {
        SolidRows pyramid = of(PYRAMID);
        due("a point that is no corner", pyramid.way(0, 1), -1);
        due("a point that is no corner", pyramid.way(1, 0), -1);
        due("0 is not for the same then", pyramid.way(0, 0), -1);
        due("no such point", pyramid.way(6, 1), -1);
        due("no such point", pyramid.way(1, 6), -1);
        due("no such point", pyramid.way(-1, -1), -1);
        SolidRows full = of(BOWS);
        due("corner 13", full.way(13, 13), 0);
        due("no 14", full.way(14, 14), -1);
        due("no 14", full.way(0, 14), -1);
        for (int n : WRAPS) {
            due("way(" + n + ", 0)", full.way(n, 0), -1);
            due("way(0, " + n + ")", full.way(0, n), -1);
            due("way(" + n + ", " + n + ")", full.way(n, n), -1);
        }
        for (int[] numbers : FLATS) {
            due("flat", of(numbers).way(0, 0), -3);
            due("flat, no such", of(numbers).way(-1, 14), -3);
        }
    }

    private static void howManySymmetries() {
        due("the fewest", of(BODY).symmetries(), 1);
        due("the most", of(CUBE).symmetries(), 48);
        due("the most of the greatest", of(GREAT).symmetries(), 48);
        due("a tower", of(TOWER).symmetries(), 4);
        due("bows", of(BOWS).symmetries(), 8);
        due("a top aside, number 0", of(1, 0, 4, 3, 3, 0, -3, 3, 0, -3, -3, 0, 3, -3, 0).symmetries(), 2);
        due("a top aside, the last", of(3, 3, 0, -3, 3, 0, -3, -3, 0, 3, -3, 0, 1, 0, 4).symmetries(), 2);
        SolidRows rhombic = of(OCTAHEDRON);
        add(rhombic, CUBE);
        due("full and the most", rhombic.symmetries(), 48);
        SolidRows solid = of(CUBE);
        due("before", solid.symmetries(), 48);
        due("refused", solid.point(1, 1, 1), -3);
        due("behind a refused point", solid.symmetries(), 48);
        due("within, aside", solid.point(1, 0, 0), 8);
        due("points that are no corners don't count", solid.symmetries(), 48);
        due("outside", solid.point(2, 0, 0), 9);
        due("behind another point", solid.symmetries(), 8);
        for (int[] numbers : FLATS) {
            due("flat", of(numbers).symmetries(), -3);
        }
    }

    private static void symmetryRefused() {
        SolidRows cube = of(CUBE);
        due("the last", cube.symmetry(47, 0), 7);
        due("behind it", cube.symmetry(48, 0), -1);
        due("before the first", cube.symmetry(-1, 0), -1);
        due("no such corner", cube.symmetry(0, 8), -1);
        due("no such corner", cube.symmetry(0, -1), -1);
        due("neither", cube.symmetry(48, 8), -1);
        due("a point that is no corner", of(PYRAMID).symmetry(0, 0), -1);
        due("one symmetry: 0", of(BODY).symmetry(0, 3), 3);
        due("one symmetry: 1", of(BODY).symmetry(1, 3), -1);
        due("corner 13", of(BOWS).symmetry(0, 13), 13);
        due("no 14", of(BOWS).symmetry(0, 14), -1);
        for (int n : WRAPS) {
            due("symmetry(" + n + ", 1)", of(PYRAMID).symmetry(n, 1), -1);
            due("symmetry(0, " + n + ")", cube.symmetry(0, n), -1);
        }
        SolidRows fewer = of(CUBE);
        fewer.symmetries();
        add(fewer, 2, 0, 0);
        due("the last of the fewer", fewer.symmetry(7, 8), 8);
        due("no more than there are now", fewer.symmetry(8, 8), -1);
        for (int[] numbers : FLATS) {
            due("flat", of(numbers).symmetry(0, 0), -3);
            due("flat, none such", of(numbers).symmetry(-1, 14), -3);
        }
    }

    private static void turnRefused() {
        SolidRows cube = of(CUBE);
        due("the first", cube.turn(0), 1);
        due("the last", cube.turn(47), 0);
        due("behind it", cube.turn(48), -1);
        due("before the first", cube.turn(-1), -1);
        due("one symmetry: 0", of(BODY).turn(0), 1);
        due("one symmetry: 1", of(BODY).turn(1), -1);
        for (int n : WRAPS) {
            due("turn(" + n + ")", of(PYRAMID).turn(n), -1);
        }
        for (int[] numbers : FLATS) {
            due("flat", of(numbers).turn(0), -3);
            due("flat, none such", of(numbers).turn(-1), -3);
        }
    }

    private static void oneOrMore() {
        for (int[] numbers : SOLIDS) {
            due("what moves nothing has to be done once", of(numbers).order(0), 1);
        }
        SolidRows cube = of(CUBE);
        int[] counts = new int[7];
        for (int i = 0; i < 48; i++) {
            counts[Math.max(0, Math.min(6, cube.order(i)))]++;
        }
        int[] dueCounts = {0, 1, 19, 8, 12, 0, 8};
        for (int n = 0; n < counts.length; n++) {
            due("how many of a cube's have order " + n, counts[n], dueCounts[n]);
        }
        // A third of a turn changes a ring of three, tops that change places a ring of two: 6 in all.
        SolidRows tops = of(1, -1, 0, 0, 1, -1, -1, 0, 1, 2, 2, 2, -2, -2, -2);
        due("the least for all rings together", tops.order(7), 6);
    }

    private static void orderRefused() {
        SolidRows cube = of(CUBE);
        due("the last", cube.order(47), 2);
        due("behind it", cube.order(48), -1);
        due("before the first", cube.order(-1), -1);
        due("one symmetry: 0", of(BODY).order(0), 1);
        due("one symmetry: 1", of(BODY).order(1), -1);
        for (int n : WRAPS) {
            due("order(" + n + ")", of(PYRAMID).order(n), -1);
        }
        for (int[] numbers : FLATS) {
            due("flat", of(numbers).order(0), -3);
            due("flat, none such", of(numbers).order(48), -3);
        }
    }

    private static void regularOrNot() {
        SolidRows solid = of(CUBE);
        due("a cube", solid.regular(), 1);
        add(solid, 0, 0, 0, 1, 0, 0);
        due("points that are no corners change nothing", solid.regular(), 1);
        add(solid, 2, 0, 0);
        due("one more corner does", solid.regular(), 0);
        solid.clear();
        due("flat", solid.regular(), -3);
        for (int[] numbers : FLATS) {
            due("flat", of(numbers).regular(), -3);
        }
    }

    // ---- all of them

    private static void allTerms() {
        sentence("What it is", "An object is used for at most 512 calls after it has been made", BoundariesTest::calls512);
        terms("POINTS are numbered 0, 1, .. (14 at most)", BoundariesTest::fourteenAtMost);
        terms("each with X, Y, Z (whole numbers, -20 to 20)", BoundariesTest::from20To20);
        terms("no two alike", BoundariesTest::noTwoAlike);
        terms("It is FLAT, if some plane has them all", BoundariesTest::somePlaneHasThemAll);
        terms("(so without four POINTS)", BoundariesTest::withoutFour);
        terms("what is told below of THE SOLID is told only if it is not", BoundariesTest::onlyIfNotFlat);
        terms("A CORNER is a POINT that is not in the least convex set of the other POINTS.",
            BoundariesTest::notAmongTheOthers);
        terms("A FACE lies in a plane that has three CORNERS, not on one line, and to one side of which no CORNER lies",
            BoundariesTest::threeCornersNotOnOneLine);
        terms("all CORNERS of that plane", BoundariesTest::allCornersOfThatPlane);
        terms("from the least on, so that for each two next to one another (the last and the first, too) p, q, and each "
            + "other one r of them (q - p) x (r - p) points out of THE SOLID.", BoundariesTest::lastAndFirst);
        terms("at the first place at which two differ the lesser CORNER comes first.", BoundariesTest::facesInOrder);
        terms("An EDGE is two CORNERS next to one another in a FACE (two such FACES have it, each the other way round).",
            BoundariesTest::edgesHaveTwoFaces);
        terms("three whole numbers without a common divisor above 1, pointing out of THE SOLID",
            BoundariesTest::noCommonDivisor);
        terms("its LEVEL: the NORMAL'S X times that of a CORNER of it, and so with Y, Z, together.",
            BoundariesTest::levels);
        terms("those points of it that lie between no two others of it", BoundariesTest::betweenNoTwoOthers);
        terms("in order: by X, then Y, then Z, the lesser first.", BoundariesTest::cutInOrder);
        terms("what THE SOLID becomes when points that differ by a multiple of it are taken as one",
            BoundariesTest::takenAsOne);
        terms("no two the same one, so that each two are as far from one another as before.",
            BoundariesTest::asFarAsBefore);
        terms("It is a TURN, if a motion without mirroring does that, else a MIRRORING one.",
            BoundariesTest::elseMirroring);
        terms("by what the least CORNER gets, then the next one, and so on, the lesser first.",
            BoundariesTest::symmetriesInOrder);
        terms("THE SOLID is REGULAR, if for each two FLAGS (a FACE, an EDGE of it, an end of that) some SYMMETRY takes "
            + "the one to the other.", BoundariesTest::eachTwoFlags);
        terms("Fractions are told in lowest terms, what is below above 0 (0 is 0 / 1): part 0 above, 1 below.",
            BoundariesTest::lowestTerms);
        terms("REFUSALS change nothing", BoundariesTest::changeNothing);
        terms("-1 there is no such CORNER, FACE, SYMMETRY, place, -2 outside its bounds, -3 not in this state (THE SOLID "
            + "is FLAT), -4 no room.", BoundariesTest::whatRefusalsAnswer);
        terms("the first that fits in the order in which the call names them", BoundariesTest::firstThatFits);
        terms("Calls that answer a long have NOTHING in place of all of these.", BoundariesTest::nothingForLongs);
    }

    private static void firstPromises() {
        promise(1, "No POINTS.", BoundariesTest::noPoints);
        promise(2, "A POINT more: its number.", BoundariesTest::itsNumber);
        promise(2, "-2, -3 there is one like it, -4.", BoundariesTest::pointRefused);
        promise(3, "how many there were.", BoundariesTest::howManyThereWere);
        promise(3, "No POINTS any more", BoundariesTest::noPointsAnyMore);
        promise(4, "Whether it is FLAT.", BoundariesTest::flatOrNot);
        promise(5, "The CORNERS, as bits: 2^k for POINT k. -3.", BoundariesTest::asBits);
        promise(6, "How many EDGES there are. -3.", BoundariesTest::howManyEdges);
        promise(7, "How many FACES there are. -3.", BoundariesTest::howManyFaces);
        promise(8, "How many CORNERS a FACE has.", BoundariesTest::howManyCornersAFaceHas);
        promise(8, "-3, -1.", BoundariesTest::sizeRefused);
        promise(9, "The CORNER at place k, from 0, of a FACE, ROUND.", BoundariesTest::placeFrom0);
        promise(9, "-3, -1.", BoundariesTest::atRefused);
        promise(10, "what = 0, 1, 2 X, Y, Z of its NORMAL, 3 its LEVEL.", BoundariesTest::normalWhat);
        promise(10, "NOTHING: FLAT, no such FACE, no such what.", BoundariesTest::normalNothing);
        promise(11, "Six times the volume. NOTHING: FLAT.", BoundariesTest::sixTimesTheVolume);
        promise(12, "the point at which all of it, weighing alike everywhere, is in balance.", BoundariesTest::inBalance);
        promise(12, "NOTHING: FLAT, no such axis, part.", BoundariesTest::middleNothing);
    }

    private static void laterPromises() {
        promise(13, "2 within THE SOLID, 1 on a FACE, 0 outside.", BoundariesTest::withinOnOutside);
        promise(13, "-3, -2 down is not 1 to 1000, or x, y, z not -100000 to 100000.", BoundariesTest::whereBounds);
        promise(14, "how many corners it has (0: there is none).", BoundariesTest::howManyCornersItHas);
        promise(14, "-3, -2 a, b, c are all 0, or one is not -20 to 20, or d not -2000 to 2000.",
            BoundariesTest::cutBounds);
        promise(15, "of the latest CUT that was not refused", BoundariesTest::latestNotRefused);
        promise(15, "(none behind point(), clear())", BoundariesTest::noneBehindPointAndClear);
        promise(15, "NOTHING: none such, no such axis, part.", BoundariesTest::cutAtNothing);
        promise(16, "How many corners THE SHADOW has along the direction a, b, c.",
            BoundariesTest::howManyCornersTheShadowHas);
        promise(16, "-3, -2 they are all 0, or one is not -20 to 20.", BoundariesTest::shadowBounds);
        promise(17, "The greatest a X + b Y + c Z of THE SOLID (what = 0); the CORNERS that have it, as bits (1).",
            BoundariesTest::greatestOfTheSolid);
        promise(17, "NOTHING: FLAT, a, b, c as for shadow(), no such what.", BoundariesTest::farNothing);
        promise(18, "The fewest EDGES by which one comes from a CORNER to another one (0 for the same).",
            BoundariesTest::fewestEdges);
        promise(18, "-3, -1.", BoundariesTest::wayRefused);
        promise(19, "How many SYMMETRIES there are. -3.", BoundariesTest::howManySymmetries);
        promise(20, "What SYMMETRY i gives a CORNER. -3, -1.", BoundariesTest::symmetryRefused);
        promise(21, "Whether SYMMETRY i is a TURN: 1, 0. -3, -1.", BoundariesTest::turnRefused);
        promise(22, "till each CORNER has itself (1 or more).", BoundariesTest::oneOrMore);
        promise(22, "-3, -1.", BoundariesTest::orderRefused);
        promise(23, "Whether it is REGULAR: 1, 0. -3.", BoundariesTest::regularOrNot);
    }

    public static void main(String[] args) throws IOException {
        document = readDocument();
        allTerms();
        firstPromises();
        laterPromises();
        System.out.println(sentences + " sentences looked at");
        System.out.println(wrong == 0 ? "all answers are as due" : wrong + " answers are not as due");
        if (wrong != 0) {
            System.exit(1);
        }
    }
}
