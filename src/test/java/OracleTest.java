import java.math.BigInteger;
import java.util.ArrayList;
import java.util.Arrays;
import java.util.Collections;
import java.util.Comparator;
import java.util.List;
import java.util.Random;
import java.util.TreeSet;

/** Many solids, each answer against one found in another way, as straight from the document's terms as can be. */
public final class OracleTest {
    private static final long NOTHING = -1000000000000L;
    private static final Random RANDOM = new Random(20261116);
    private static int wrong = 0;
    private static long asked = 0;
    private static String name = "";

    private static void due(String call, long got, long want) {
        asked++;
        if (got != want && wrong++ < 40) {
            System.out.println(name + ": " + call + " answered " + got + ", due is " + want);
        }
    }

    // ---- fractions

    private record Frac(BigInteger above, BigInteger below) {
        static Frac of(long above, long below) {
            return make(BigInteger.valueOf(above), BigInteger.valueOf(below));
        }

        static Frac make(BigInteger above, BigInteger below) {
            BigInteger shared = above.gcd(below).multiply(BigInteger.valueOf(below.signum()));
            return new Frac(above.divide(shared), below.divide(shared));
        }

        Frac plus(Frac o) {
            return make(above.multiply(o.below).add(o.above.multiply(below)), below.multiply(o.below));
        }

        Frac minus(Frac o) {
            return make(above.multiply(o.below).subtract(o.above.multiply(below)), below.multiply(o.below));
        }

        Frac times(Frac o) {
            return make(above.multiply(o.above), below.multiply(o.below));
        }

        Frac by(Frac o) {
            return make(above.multiply(o.below), below.multiply(o.above));
        }

        int sign() {
            return above.signum();
        }

        int compare(Frac o) {
            return above.multiply(o.below).compareTo(o.above.multiply(below));
        }
    }

    private static int compareSpots(Frac[] p, Frac[] q) {
        for (int k = 0; k < p.length; k++) {
            int c = p[k].compare(q[k]);
            if (c != 0) {
                return c;
            }
        }
        return 0;
    }

    // ---- whole vectors

    private static long[] minus(long[] p, long[] q) {
        return new long[] {p[0] - q[0], p[1] - q[1], p[2] - q[2]};
    }

    private static long[] cross(long[] u, long[] v) {
        return new long[] {u[1] * v[2] - u[2] * v[1], u[2] * v[0] - u[0] * v[2], u[0] * v[1] - u[1] * v[0]};
    }

    private static long dot(long[] u, long[] v) {
        return u[0] * v[0] + u[1] * v[1] + u[2] * v[2];
    }

    private static long det(long[] p, long[] q, long[] r, long[] s) {
        return dot(cross(minus(q, p), minus(r, p)), minus(s, p));
    }

    private static boolean isZero(long[] u) {
        return u[0] == 0 && u[1] == 0 && u[2] == 0;
    }

    // ---- the least convex set, by segments, triangles and bodies of four points

    private static boolean inSegment(long[] t, long[] p, long[] q) {
        return isZero(cross(minus(q, p), minus(t, p))) && dot(minus(p, t), minus(q, t)) <= 0;
    }

    private static boolean inTriangle(long[] t, long[] p, long[] q, long[] r) {
        long[] n = cross(minus(q, p), minus(r, p));
        if (isZero(n) || dot(n, minus(t, p)) != 0) {
            return false;
        }
        return dot(n, cross(minus(q, p), minus(t, p))) >= 0 && dot(n, cross(minus(r, q), minus(t, q))) >= 0
            && dot(n, cross(minus(p, r), minus(t, r))) >= 0;
    }

    private static boolean inFour(long[] t, long[] p, long[] q, long[] r, long[] s) {
        int sign = Long.signum(det(p, q, r, s));
        return sign != 0 && sign * Long.signum(det(t, q, r, s)) >= 0 && sign * Long.signum(det(p, t, r, s)) >= 0
            && sign * Long.signum(det(p, q, t, s)) >= 0 && sign * Long.signum(det(p, q, r, t)) >= 0;
    }

    private static boolean inHull(long[] t, List<long[]> points) {
        int n = points.size();
        for (int i = 0; i < n; i++) {
            for (int j = i; j < n; j++) {
                if (inSegment(t, points.get(i), points.get(j))) {
                    return true;
                }
                for (int k = j + 1; k < n; k++) {
                    if (inTriangle(t, points.get(i), points.get(j), points.get(k))) {
                        return true;
                    }
                    for (int l = k + 1; l < n; l++) {
                        if (inFour(t, points.get(i), points.get(j), points.get(k), points.get(l))) {
                            return true;
                        }
                    }
                }
            }
        }
        return false;
    }

    // ---- outlines of fractions in a plane

    private static Frac turnOf(Frac[] o, Frac[] p, Frac[] q) {
        return p[0].minus(o[0]).times(q[1].minus(o[1])).minus(p[1].minus(o[1]).times(q[0].minus(o[0])));
    }

    /** The corners of the least convex set of points by their first two numbers, round by the left. */
    private static List<Frac[]> outline(List<Frac[]> given) {
        List<Frac[]> spots = new ArrayList<>(given);
        spots.sort(OracleTest::compareSpots);
        for (int k = spots.size() - 1; k > 0; k--) {
            if (spots.get(k)[0].equals(spots.get(k - 1)[0]) && spots.get(k)[1].equals(spots.get(k - 1)[1])) {
                spots.remove(k);
            }
        }
        if (spots.size() < 2) {
            return spots;
        }
        List<Frac[]> lower = chain(spots);
        Collections.reverse(spots);
        List<Frac[]> upper = chain(spots);
        lower.remove(lower.size() - 1);
        upper.remove(upper.size() - 1);
        lower.addAll(upper);
        return lower;
    }

    private static List<Frac[]> chain(List<Frac[]> spots) {
        List<Frac[]> row = new ArrayList<>();
        for (Frac[] spot : spots) {
            while (row.size() > 1 && turnOf(row.get(row.size() - 2), row.get(row.size() - 1), spot).sign() <= 0) {
                row.remove(row.size() - 1);
            }
            row.add(spot);
        }
        return row;
    }

    // ---- one solid

    private static final class Plain {
        final List<long[]> points;
        final boolean flat;
        final List<Integer> corners = new ArrayList<>();
        final List<List<Integer>> faces = new ArrayList<>();
        final List<long[]> normals = new ArrayList<>();
        final List<int[]> symmetries = new ArrayList<>();

        Plain(List<long[]> points) {
            this.points = points;
            this.flat = isFlat();
            if (!flat) {
                findCorners();
                findFaces();
                findSymmetries();
            }
        }

        long[] at(int k) {
            return points.get(k);
        }

        boolean isFlat() {
            for (long[] p : points) {
                for (long[] q : points) {
                    for (long[] r : points) {
                        for (long[] s : points) {
                            if (det(p, q, r, s) != 0) {
                                return false;
                            }
                        }
                    }
                }
            }
            return true;
        }

        void findCorners() {
            for (int k = 0; k < points.size(); k++) {
                List<long[]> others = new ArrayList<>(points);
                others.remove(k);
                if (!inHull(at(k), others)) {
                    corners.add(k);
                }
            }
        }

        void findFaces() {
            TreeSet<List<Integer>> sorted = new TreeSet<>((u, v) -> {
                for (int k = 0; k < Math.min(u.size(), v.size()); k++) {
                    if (!u.get(k).equals(v.get(k))) {
                        return u.get(k) - v.get(k);
                    }
                }
                return u.size() - v.size();
            });
            for (int p : corners) {
                for (int q : corners) {
                    for (int r : corners) {
                        long[] n = cross(minus(at(q), at(p)), minus(at(r), at(p)));
                        if (!isZero(n) && corners.stream().allMatch(k -> dot(n, minus(at(k), at(p))) <= 0)) {
                            sorted.add(round(n, p));
                        }
                    }
                }
            }
            for (List<Integer> row : sorted) {
                faces.add(row);
                long[] n = cross(minus(at(row.get(1)), at(row.get(0))), minus(at(row.get(2)), at(row.get(0))));
                long shared = 0;
                for (long part : n) {
                    shared = BigInteger.valueOf(shared).gcd(BigInteger.valueOf(part)).longValue();
                }
                normals.add(new long[] {n[0] / shared, n[1] / shared, n[2] / shared});
            }
        }

        List<Integer> round(long[] out, int p) {
            List<Integer> members = new ArrayList<>();
            for (int k : corners) {
                if (dot(out, minus(at(k), at(p))) == 0) {
                    members.add(k);
                }
            }
            List<Integer> row = new ArrayList<>();
            row.add(members.get(0));
            while (row.size() < members.size()) {
                int last = row.get(row.size() - 1);
                for (int q : members) {
                    boolean next = q != last;
                    for (int r : members) {
                        next &= r == last || r == q
                            || dot(out, cross(minus(at(q), at(last)), minus(at(r), at(last)))) > 0;
                    }
                    if (next) {
                        row.add(q);
                        break;
                    }
                }
            }
            return row;
        }

        long apart(int p, int q) {
            long[] u = minus(at(p), at(q));
            return dot(u, u);
        }

        int[] base() {
            for (int p : corners) {
                for (int q : corners) {
                    for (int r : corners) {
                        for (int s : corners) {
                            if (det(at(p), at(q), at(r), at(s)) != 0) {
                                return new int[] {p, q, r, s};
                            }
                        }
                    }
                }
            }
            return new int[0];
        }

        /** Where four corners go tells where all go, as no two corners are equally far from four such. */
        void findSymmetries() {
            int[] base = base();
            for (int p : corners) {
                for (int q : corners) {
                    if (apart(p, q) != apart(base[0], base[1])) {
                        continue;
                    }
                    for (int r : corners) {
                        if (apart(p, r) != apart(base[0], base[2]) || apart(q, r) != apart(base[1], base[2])) {
                            continue;
                        }
                        for (int s : corners) {
                            tryMotion(base, new int[] {p, q, r, s});
                        }
                    }
                }
            }
            symmetries.sort(Arrays::compare);
        }

        void tryMotion(int[] base, int[] to) {
            int[] row = new int[corners.size()];
            for (int k = 0; k < row.length; k++) {
                int found = -1;
                for (int c : corners) {
                    boolean fits = true;
                    for (int b = 0; b < 4; b++) {
                        fits &= apart(corners.get(k), base[b]) == apart(c, to[b]);
                    }
                    found = fits ? c : found;
                }
                row[k] = found;
            }
            for (int k = 0; k < row.length; k++) {
                for (int l = 0; l < row.length; l++) {
                    if (row[k] < 0 || row[l] < 0 || k != l && row[k] == row[l]
                        || apart(corners.get(k), corners.get(l)) != apart(row[k], row[l])) {
                        return;
                    }
                }
            }
            symmetries.add(row);
        }

        int image(int[] symmetry, int corner) {
            return symmetry[corners.indexOf(corner)];
        }

        boolean isTurn(int[] symmetry) {
            int[] b = base();
            return det(at(b[0]), at(b[1]), at(b[2]), at(b[3])) == det(at(image(symmetry, b[0])),
                at(image(symmetry, b[1])), at(image(symmetry, b[2])), at(image(symmetry, b[3])));
        }

        int orderOf(int[] symmetry) {
            int[] now = symmetry.clone();
            for (int n = 1;; n++) {
                boolean home = true;
                for (int k = 0; k < now.length; k++) {
                    home &= now[k] == corners.get(k);
                }
                if (home) {
                    return n;
                }
                for (int k = 0; k < now.length; k++) {
                    now[k] = image(symmetry, now[k]);
                }
            }
        }

        boolean isRegular() {
            List<List<TreeSet<Integer>>> flags = new ArrayList<>();
            for (List<Integer> face : faces) {
                for (int k = 0; k < face.size(); k++) {
                    int p = face.get(k);
                    int q = face.get((k + 1) % face.size());
                    for (int end : new int[] {p, q}) {
                        flags.add(List.of(new TreeSet<>(face), new TreeSet<>(List.of(p, q)), new TreeSet<>(List.of(end))));
                    }
                }
            }
            TreeSet<String> reached = new TreeSet<>();
            TreeSet<String> all = new TreeSet<>();
            for (List<TreeSet<Integer>> flag : flags) {
                all.add(flag.toString());
            }
            for (int[] symmetry : symmetries) {
                List<TreeSet<Integer>> moved = new ArrayList<>();
                for (TreeSet<Integer> part : flags.get(0)) {
                    TreeSet<Integer> to = new TreeSet<>();
                    part.forEach(c -> to.add(image(symmetry, c)));
                    moved.add(to);
                }
                reached.add(moved.toString());
            }
            return reached.equals(all);
        }

        int[][] ways() {
            int[][] ways = new int[points.size()][points.size()];
            for (int[] row : ways) {
                Arrays.fill(row, 1000);
            }
            for (List<Integer> face : faces) {
                for (int k = 0; k < face.size(); k++) {
                    ways[face.get(k)][face.get((k + 1) % face.size())] = 1;
                }
            }
            for (int c : corners) {
                ways[c][c] = 0;
            }
            for (int m : corners) {
                for (int p : corners) {
                    for (int q : corners) {
                        ways[p][q] = Math.min(ways[p][q], ways[p][m] + ways[m][q]);
                    }
                }
            }
            return ways;
        }

        /** The corners of a cut, each as X, Y, Z, by all lines between two points. */
        List<Frac[]> cut(long[] n, Frac d) {
            List<Frac[]> spots = new ArrayList<>();
            for (long[] p : points) {
                for (long[] q : points) {
                    Frac s = Frac.of(dot(n, p), 1).minus(d);
                    Frac t = Frac.of(dot(n, q), 1).minus(d);
                    if (s.sign() * t.sign() < 0) {
                        Frac part = s.by(s.minus(t));
                        Frac[] spot = new Frac[3];
                        for (int axis = 0; axis < 3; axis++) {
                            spot[axis] = Frac.of(p[axis], 1).plus(part.times(Frac.of(q[axis] - p[axis], 1)));
                        }
                        spots.add(spot);
                    }
                    if (s.sign() == 0) {
                        spots.add(new Frac[] {Frac.of(p[0], 1), Frac.of(p[1], 1), Frac.of(p[2], 1)});
                    }
                }
            }
            int drop = n[0] != 0 ? 0 : n[1] != 0 ? 1 : 2;
            int one = (drop + 1) % 3;
            int two = (drop + 2) % 3;
            List<Frac[]> shifted = new ArrayList<>();
            for (Frac[] spot : spots) {
                shifted.add(new Frac[] {spot[one], spot[two], spot[drop]});
            }
            List<Frac[]> corners = new ArrayList<>();
            for (Frac[] spot : outline(shifted)) {
                Frac[] back = new Frac[3];
                back[one] = spot[0];
                back[two] = spot[1];
                back[drop] = spot[2];
                corners.add(back);
            }
            return corners;
        }

        Frac sliceArea(int axis, Frac level) {
            long[] n = new long[3];
            n[axis] = 1;
            List<Frac[]> ring = cut(n, level);
            int one = (axis + 1) % 3;
            int two = (axis + 2) % 3;
            Frac twice = Frac.of(0, 1);
            for (int k = 0; k < ring.size(); k++) {
                Frac[] p = ring.get(k);
                Frac[] q = ring.get((k + 1) % ring.size());
                twice = twice.plus(p[one].times(q[two]).minus(p[two].times(q[one])));
            }
            return twice.times(Frac.of(1, 2));
        }

        /** The volume and what it weighs about 0 along an axis, by slices: Simpson's rule is exact up to cubes. */
        Frac[] weigh(int axis) {
            TreeSet<Long> levels = new TreeSet<>();
            points.forEach(p -> levels.add(p[axis]));
            Frac[] sums = {Frac.of(0, 1), Frac.of(0, 1)};
            Long before = null;
            for (long level : levels) {
                if (before != null) {
                    Frac[] at = {Frac.of(before, 1), Frac.of(before + level, 2), Frac.of(level, 1)};
                    for (int k = 0; k < 3; k++) {
                        Frac part = sliceArea(axis, at[k]).times(Frac.of((level - before) * (k == 1 ? 4 : 1), 6));
                        sums[0] = sums[0].plus(part);
                        sums[1] = sums[1].plus(part.times(at[k]));
                    }
                }
                before = level;
            }
            return sums;
        }

        int shadow(long[] d) {
            int drop = d[0] != 0 ? 0 : d[1] != 0 ? 1 : 2;
            int one = (drop + 1) % 3;
            int two = (drop + 2) % 3;
            List<Frac[]> spots = new ArrayList<>();
            for (long[] p : points) {
                spots.add(new Frac[] {Frac.of(p[one] * d[drop] - p[drop] * d[one], 1),
                    Frac.of(p[two] * d[drop] - p[drop] * d[two], 1)});
            }
            return outline(spots).size();
        }

        int where(long x, long y, long z, long down) {
            long[] t = {x, y, z};
            List<long[]> scaled = new ArrayList<>();
            for (int c : corners) {
                scaled.add(new long[] {at(c)[0] * down, at(c)[1] * down, at(c)[2] * down});
            }
            if (!inHull(t, scaled)) {
                return 0;
            }
            for (int f = 0; f < faces.size(); f++) {
                if (dot(normals.get(f), t) == dot(normals.get(f), at(faces.get(f).get(0))) * down) {
                    return 1;
                }
            }
            return 2;
        }
    }

    // ---- comparing

    /** A new object with these points: what is promised ends with the 512th call, so no object is asked for all. */
    private static SolidRows again(List<long[]> points) {
        SolidRows solid = started();
        for (long[] p : points) {
            solid.point((int) p[0], (int) p[1], (int) p[2]);
        }
        return solid;
    }

    /** A new object, or one in which another solid stood before: nothing of that may show. */
    private static SolidRows started() {
        SolidRows solid = new SolidRows();
        if (RANDOM.nextBoolean()) {
            for (int k = 0; k < 14; k++) {
                solid.point(k % 2 * 7 - 3, k % 5, k % 7 - k / 3);
            }
            solid.cut(1, 1, 1, 3);
            solid.symmetries();
            solid.clear();
        }
        return solid;
    }

    private static void compare(SolidRows solid, List<long[]> points) {
        Plain plain = new Plain(points);
        due("flat()", solid.flat() ? 1 : 0, plain.flat ? 1 : 0);
        if (plain.flat) {
            due("corners()", solid.corners(), -3);
            due("faces()", solid.faces(), -3);
            due("volume()", solid.volume(), NOTHING);
            due("regular()", solid.regular(), -3);
            return;
        }
        compareFaces(solid, plain);
        compareWeights(solid, plain);
        compareWays(again(points), plain);
        compareSymmetries(plain);
        for (int k = 0; k < 8; k++) {
            SolidRows other = again(points);
            comparePlane(other, plain);
            compareDirection(other, plain);
            comparePlace(other, plain);
        }
    }

    private static void compareFaces(SolidRows solid, Plain plain) {
        int bits = 0;
        for (int c : plain.corners) {
            bits |= 1 << c;
        }
        due("corners()", solid.corners(), bits);
        due("faces()", solid.faces(), plain.faces.size());
        due("edges()", solid.edges(), plain.corners.size() + plain.faces.size() - 2);
        for (int f = 0; f < plain.faces.size(); f++) {
            List<Integer> row = plain.faces.get(f);
            due("size(" + f + ")", solid.size(f), row.size());
            for (int k = 0; k < row.size(); k++) {
                due("at(" + f + ", " + k + ")", solid.at(f, k), row.get(k));
            }
            due("at(" + f + ", size)", solid.at(f, row.size()), -1);
            long[] n = plain.normals.get(f);
            for (int axis = 0; axis < 3; axis++) {
                due("normal(" + f + ", " + axis + ")", solid.normal(f, axis), n[axis]);
            }
            due("normal(" + f + ", 3)", solid.normal(f, 3), dot(n, plain.at(row.get(0))));
        }
        due("size(faces)", solid.size(plain.faces.size()), -1);
    }

    private static void compareWeights(SolidRows solid, Plain plain) {
        for (int axis = 0; axis < 3; axis++) {
            Frac[] sums = plain.weigh(axis);
            Frac middle = sums[1].by(sums[0]);
            Frac six = sums[0].times(Frac.of(6, 1));
            due("volume() is whole", six.below.longValue(), 1);
            due("volume()", solid.volume(), six.above.longValue());
            due("middle(" + axis + ", 0)", solid.middle(axis, 0), middle.above.longValue());
            due("middle(" + axis + ", 1)", solid.middle(axis, 1), middle.below.longValue());
        }
    }

    private static void compareWays(SolidRows solid, Plain plain) {
        int[][] ways = plain.ways();
        for (int p = -1; p <= plain.points.size(); p++) {
            for (int q = -1; q <= plain.points.size(); q++) {
                boolean both = plain.corners.contains(p) && plain.corners.contains(q);
                due("way(" + p + ", " + q + ")", solid.way(p, q), both ? ways[p][q] : -1);
            }
        }
    }

    private static void compareSymmetries(Plain plain) {
        SolidRows solid = again(plain.points);
        due("symmetries()", solid.symmetries(), plain.symmetries.size());
        for (int i = 0; i < plain.symmetries.size(); i++) {
            int[] row = plain.symmetries.get(i);
            solid = i % 16 == 0 ? again(plain.points) : solid;
            for (int k = 0; k < plain.points.size(); k++) {
                int want = plain.corners.contains(k) ? plain.image(row, k) : -1;
                due("symmetry(" + i + ", " + k + ")", solid.symmetry(i, k), want);
            }
            due("turn(" + i + ")", solid.turn(i), plain.isTurn(row) ? 1 : 0);
            due("order(" + i + ")", solid.order(i), plain.orderOf(row));
        }
        due("symmetry(symmetries)", solid.symmetry(plain.symmetries.size(), plain.corners.get(0)), -1);
        due("regular()", solid.regular(), plain.isRegular() ? 1 : 0);
    }

    private static int upTo(int most) {
        return RANDOM.nextInt(2 * most + 1) - most;
    }

    /** A direction within the bounds, often one that belongs to the solid. */
    private static long[] direction(Plain plain) {
        long[] d = new long[3];
        int kind = RANDOM.nextInt(4);
        if (kind == 0) {
            d = plain.normals.get(RANDOM.nextInt(plain.normals.size())).clone();
        } else if (kind == 1) {
            int c = plain.corners.get(RANDOM.nextInt(plain.corners.size()));
            d = minus(plain.at(c), plain.at(plain.corners.get(RANDOM.nextInt(plain.corners.size()))));
        }
        boolean fits = !isZero(d) && Arrays.stream(d).allMatch(n -> Math.abs(n) <= 20);
        int most = kind == 2 ? 2 : 20;
        while (!fits) {
            d = new long[] {upTo(most), upTo(most), upTo(most)};
            fits = !isZero(d);
        }
        return d;
    }

    private static void comparePlane(SolidRows solid, Plain plain) {
        long[] n = direction(plain);
        long d = dot(n, plain.at(RANDOM.nextInt(plain.points.size())));
        int kind = RANDOM.nextInt(3);
        if (kind == 1) {
            d = Math.floorDiv(d + dot(n, plain.at(RANDOM.nextInt(plain.points.size()))), 2L);
        } else if (kind == 2) {
            d += upTo(5);
        }
        d = Math.max(-2000, Math.min(2000, d));
        List<Frac[]> want = plain.cut(n, Frac.of(d, 1));
        want.sort(Comparator.comparing((Frac[] s) -> s, OracleTest::compareSpots));
        String call = "cut(" + n[0] + ", " + n[1] + ", " + n[2] + ", " + d + ")";
        due(call, solid.cut((int) n[0], (int) n[1], (int) n[2], (int) d), want.size());
        for (int i = 0; i < want.size(); i++) {
            for (int axis = 0; axis < 3; axis++) {
                due(call + ", cutAt(" + i + ", " + axis + ", 0)", solid.cutAt(i, axis, 0),
                    want.get(i)[axis].above.longValue());
                due(call + ", cutAt(" + i + ", " + axis + ", 1)", solid.cutAt(i, axis, 1),
                    want.get(i)[axis].below.longValue());
            }
        }
        due(call + ", cutAt behind the last", solid.cutAt(want.size(), 0, 0), NOTHING);
    }

    private static void compareDirection(SolidRows solid, Plain plain) {
        long[] d = direction(plain);
        int a = (int) d[0];
        int b = (int) d[1];
        int c = (int) d[2];
        String args = "(" + a + ", " + b + ", " + c;
        due("shadow" + args + ")", solid.shadow(a, b, c), plain.shadow(d));
        long greatest = Long.MIN_VALUE;
        for (long[] p : plain.points) {
            greatest = Math.max(greatest, dot(d, p));
        }
        int bits = 0;
        for (int k : plain.corners) {
            bits |= dot(d, plain.at(k)) == greatest ? 1 << k : 0;
        }
        due("far" + args + ", 0)", solid.far(a, b, c, 0), greatest);
        due("far" + args + ", 1)", solid.far(a, b, c, 1), bits);
    }

    /** A place that some points have in the midst of them, or one beside it. */
    private static void comparePlace(SolidRows solid, Plain plain) {
        int down = 1 + RANDOM.nextInt(4);
        List<Integer> face = plain.faces.get(RANDOM.nextInt(plain.faces.size()));
        boolean on = RANDOM.nextBoolean();
        long[] sum = new long[3];
        for (int k = 0; k < down; k++) {
            int c = on ? face.get(RANDOM.nextInt(face.size())) : RANDOM.nextInt(plain.points.size());
            for (int axis = 0; axis < 3; axis++) {
                sum[axis] += plain.at(c)[axis];
            }
        }
        int scale = RANDOM.nextBoolean() ? 1 : 1 + RANDOM.nextInt(250);
        if (RANDOM.nextInt(3) == 0) {
            sum[RANDOM.nextInt(3)] += upTo(1);
        }
        int x = (int) sum[0] * scale;
        int y = (int) sum[1] * scale;
        int z = (int) sum[2] * scale;
        due("where(" + x + ", " + y + ", " + z + ", " + down * scale + ")", solid.where(x, y, z, down * scale),
            plain.where(x, y, z, (long) down * scale));
    }

    // ---- solids

    /** Puts the points in, some questions between them, and compares what stands then. */
    private static void run(SolidRows solid, String kind, List<long[]> wanted) {
        List<long[]> points = new ArrayList<>();
        int stop = RANDOM.nextInt(15);
        for (long[] p : wanted.subList(0, Math.min(wanted.size(), 17))) {
            boolean like = points.stream().anyMatch(o -> Arrays.equals(o, p));
            int want = like ? -3 : points.size() == 14 ? -4 : points.size();
            due("point(..)", solid.point((int) p[0], (int) p[1], (int) p[2]), want);
            if (want >= 0) {
                points.add(p);
            }
            name = kind + " " + text(points);
            if (points.size() == stop) {
                compare(solid, points);
                stop = -1;
            }
        }
        compare(solid, points);
        due("clear()", solid.clear(), points.size());
        due("cutAt(0, 0, 0)", solid.cutAt(0, 0, 0), NOTHING);
    }

    private static String text(List<long[]> points) {
        StringBuilder text = new StringBuilder();
        points.forEach(p -> text.append(Arrays.toString(p)));
        return text.toString();
    }

    private static List<long[]> random(int n, int most) {
        List<long[]> points = new ArrayList<>();
        for (int k = 0; k < n; k++) {
            points.add(new long[] {upTo(most), upTo(most), upTo(most)});
        }
        return points;
    }

    /** All places a point comes to by changing signs and axes. */
    private static List<long[]> orbit(long x, long y, long z) {
        int[][] axes = {{0, 1, 2}, {0, 2, 1}, {1, 0, 2}, {1, 2, 0}, {2, 0, 1}, {2, 1, 0}};
        long[] p = {x, y, z};
        List<long[]> points = new ArrayList<>();
        for (int[] row : axes) {
            for (int signs = 0; signs < 8; signs++) {
                long[] q = {p[row[0]] * ((signs & 1) * 2 - 1), p[row[1]] * ((signs & 2) - 1),
                    p[row[2]] * ((signs & 4) / 2 - 1)};
                if (points.stream().noneMatch(o -> Arrays.equals(o, q))) {
                    points.add(q);
                }
            }
        }
        return points;
    }

    /** Places a point comes to by some of the motions of a cube, drawn by lot, doing them again and again. */
    private static List<long[]> partOfOrbit(long[] start) {
        int[][] axes = {{0, 1, 2}, {0, 2, 1}, {1, 0, 2}, {1, 2, 0}, {2, 0, 1}, {2, 1, 0}};
        int[][] motions = {axes[RANDOM.nextInt(6)], axes[RANDOM.nextInt(6)]};
        int[] signs = {RANDOM.nextInt(8), RANDOM.nextInt(8)};
        List<long[]> points = new ArrayList<>(List.of(start));
        for (int k = 0; k < points.size() && points.size() < 14; k++) {
            for (int m = 0; m < 2; m++) {
                long[] p = points.get(k);
                long[] q = {p[motions[m][0]] * ((signs[m] & 1) * 2 - 1), p[motions[m][1]] * ((signs[m] & 2) - 1),
                    p[motions[m][2]] * ((signs[m] & 4) / 2 - 1)};
                if (points.stream().noneMatch(o -> Arrays.equals(o, q))) {
                    points.add(q);
                }
            }
        }
        return points;
    }

    private static List<long[]> join(List<long[]> one, List<long[]> two) {
        List<long[]> both = new ArrayList<>(one);
        both.addAll(two);
        return both;
    }

    private static List<List<long[]>> named() {
        List<long[]> hexagon = List.of(new long[] {1, -1, 0}, new long[] {0, 1, -1}, new long[] {-1, 0, 1},
            new long[] {-1, 1, 0}, new long[] {0, -1, 1}, new long[] {1, 0, -1});
        List<long[]> prism = new ArrayList<>();
        List<long[]> tops = new ArrayList<>(hexagon);
        for (long[] p : hexagon) {
            prism.add(new long[] {p[0] + 2, p[1] + 2, p[2] + 2});
            prism.add(new long[] {p[0] - 2, p[1] - 2, p[2] - 2});
        }
        tops.add(new long[] {3, 3, 3});
        tops.add(new long[] {-3, -3, -3});
        List<long[]> tetrahedron = List.of(new long[] {1, 1, 1}, new long[] {1, -1, -1}, new long[] {-1, 1, -1},
            new long[] {-1, -1, 1});
        List<long[]> grown = new ArrayList<>(tetrahedron);
        tetrahedron.forEach(p -> grown.add(new long[] {-3 * p[0], -3 * p[1], -3 * p[2]}));
        List<long[]> curve = new ArrayList<>();
        for (long t = -7; t <= 7; t++) {
            curve.add(new long[] {t * 2, t * t * 2 / 5, t * t * t / 18});
        }
        return List.of(orbit(20, 20, 20), orbit(20, 0, 0), orbit(1, 1, 0), join(orbit(1, 1, 1), orbit(2, 0, 0)),
            join(orbit(2, 2, 2), orbit(3, 0, 0)), join(orbit(2, 2, 2), orbit(2, 0, 0)), join(orbit(1, 1, 1), orbit(20, 0, 0)),
            hexagon, prism, tops, tetrahedron, grown, curve);
    }

    private static List<long[]> shuffled(List<long[]> points, int shift) {
        List<long[]> moved = new ArrayList<>();
        long[] by = {upTo(shift), upTo(shift), upTo(shift)};
        for (long[] p : points) {
            long[] q = {p[0] + by[0], p[1] + by[1], p[2] + by[2]};
            moved.add(Arrays.stream(q).allMatch(n -> Math.abs(n) <= 20) ? q : p);
        }
        Collections.shuffle(moved, RANDOM);
        return moved;
    }

    public static void main(String[] args) {
        int rounds = args.length > 0 ? Integer.parseInt(args[0]) : 40;
        for (int round = 0; round < rounds; round++) {
            if (args.length > 1) {
                RANDOM.setSeed(Long.parseLong(args[1]) * 1000003 + round);
            }
            if (round < 6) {
                for (List<long[]> points : named()) {
                    run(started(), "named", shuffled(points, round));
                }
            }
            run(started(), "narrow", random(RANDOM.nextInt(17), 1));
            run(started(), "small", random(RANDOM.nextInt(17), 2));
            run(started(), "middling", random(4 + RANDOM.nextInt(12), 4));
            run(started(), "wide", random(4 + RANDOM.nextInt(12), 20));
            run(started(), "orbit", shuffled(partOfOrbit(new long[] {upTo(3), upTo(3), upTo(3)}), 3));
            run(started(), "orbits", shuffled(join(partOfOrbit(new long[] {upTo(4), upTo(4), 0}), random(2, 5)), 0));
            run(started(), "ball", shuffled(orbit(RANDOM.nextInt(5), 5, RANDOM.nextInt(5)), 9));
        }
        System.out.println(asked + " answers looked at");
        System.out.println(wrong == 0 ? "all answers are as due" : wrong + " answers are not as due");
        if (wrong != 0) {
            System.exit(1);
        }
    }
}
