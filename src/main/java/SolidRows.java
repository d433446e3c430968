/**
 * Solids with whole corners, after the document's numbered promises: a cloud of points, the least convex
 * set about it, and what is asked of that set.
 */
public final class SolidRows {
    public static final long NOTHING = -1000000000000L;

    private static final int NONE_SUCH = -1;
    private static final int OUT_OF_BOUNDS = -2;
    private static final int NOT_NOW = -3;
    private static final int NO_ROOM = -4;

    private static final int MOST_POINTS = 14;
    // By Euler's formula n corners have at most 2 n - 4 faces.
    private static final int MOST_FACES = 2 * MOST_POINTS - 4;
    // A symmetry takes the lattice of whole corners into itself; no finite group that does is above the cube's 48.
    private static final int MOST_SYMMETRIES = 48;
    private static final int MOST_NUMBER = 20;
    private static final int MOST_LEVEL = 2000;
    private static final int MOST_DOWN = 1000;
    private static final int MOST_ABOVE = 100000;

    private final Cloud cloud;
    private final Hull hull;
    private final Section section;
    private final Motions motions;
    private final Outline shade;

    public SolidRows() {
        cloud = new Cloud();
        hull = new Hull(cloud);
        section = new Section();
        motions = new Motions(hull);
        shade = new Outline(cloud);
    }

    public int point(int x, int y, int z) {
        if (!within(x, MOST_NUMBER) || !within(y, MOST_NUMBER) || !within(z, MOST_NUMBER)) {
            return OUT_OF_BOUNDS;
        }
        if (cloud.has(x, y, z)) {
            return NOT_NOW;
        }
        if (cloud.count >= MOST_POINTS) {
            return NO_ROOM;
        }
        cloud.add(x, y, z);
        hull.build();
        forget();
        return cloud.count - 1;
    }

    public int clear() {
        int before = cloud.count;
        cloud.count = 0;
        hull.build();
        forget();
        return before;
    }

    public boolean flat() {
        return !stands();
    }

    public int corners() {
        return stands() ? hull.cornerBits : NOT_NOW;
    }

    public int edges() {
        return stands() ? hull.edgeCount : NOT_NOW;
    }

    public int faces() {
        return stands() ? hull.faceCount : NOT_NOW;
    }

    public int size(int face) {
        if (!stands()) {
            return NOT_NOW;
        }
        return hull.hasFace(face) ? hull.rounds[face].length : NONE_SUCH;
    }

    public int at(int face, int k) {
        if (!stands()) {
            return NOT_NOW;
        }
        if (!hull.hasFace(face) || k < 0 || k >= hull.rounds[face].length) {
            return NONE_SUCH;
        }
        return hull.rounds[face].row[k];
    }

    public long normal(int face, int what) {
        if (!stands() || !hull.hasFace(face)) {
            return NOTHING;
        }
        Outline round = hull.rounds[face];
        switch (what) {
            case 0: return round.a;
            case 1: return round.b;
            case 2: return round.c;
            case 3: return round.level;
            default: return NOTHING;
        }
    }

    public long volume() {
        return stands() ? hull.sixfold : NOTHING;
    }

    public long middle(int axis, int part) {
        if (!stands() || !isAxis(axis) || !isPart(part)) {
            return NOTHING;
        }
        return fraction(hull.moments[axis], 4 * hull.sixfold, part);
    }

    public int where(int x, int y, int z, int down) {
        if (!stands()) {
            return NOT_NOW;
        }
        if (down < 1 || down > MOST_DOWN) {
            return OUT_OF_BOUNDS;
        }
        if (!within(x, MOST_ABOVE) || !within(y, MOST_ABOVE) || !within(z, MOST_ABOVE)) {
            return OUT_OF_BOUNDS;
        }
        return hull.place(x, y, z, down);
    }

    public int cut(int a, int b, int c, int d) {
        if (!stands()) {
            return NOT_NOW;
        }
        if (!isDirection(a, b, c) || !within(d, MOST_LEVEL)) {
            return OUT_OF_BOUNDS;
        }
        section.slice(hull, a, b, c, d);
        return section.count;
    }

    public long cutAt(int i, int axis, int part) {
        if (i < 0 || i >= section.count || !isAxis(axis) || !isPart(part)) {
            return NOTHING;
        }
        return fraction(section.number(i, axis), section.number(i, Section.DOWN), part);
    }

    public int shadow(int a, int b, int c) {
        if (!stands()) {
            return NOT_NOW;
        }
        if (!isDirection(a, b, c)) {
            return OUT_OF_BOUNDS;
        }
        shade.look(a, b, c, hull.cornerBits);
        shade.trace(shade.rim());
        return shade.length;
    }

    public long far(int a, int b, int c, int what) {
        if (!stands() || !isDirection(a, b, c) || what < 0 || what > 1) {
            return NOTHING;
        }
        long greatest = hull.greatest(a, b, c);
        return what == 0 ? greatest : hull.cornersAt(a, b, c, greatest);
    }

    public int way(int from, int to) {
        if (!stands()) {
            return NOT_NOW;
        }
        return hull.isCorner(from) && hull.isCorner(to) ? hull.steps(from, to) : NONE_SUCH;
    }

    public int symmetries() {
        return stands() ? listed() : NOT_NOW;
    }

    public int symmetry(int i, int corner) {
        if (!stands()) {
            return NOT_NOW;
        }
        return isSymmetry(i) && hull.isCorner(corner) ? motions.image(i, corner) : NONE_SUCH;
    }

    public int turn(int i) {
        if (!stands()) {
            return NOT_NOW;
        }
        if (!isSymmetry(i)) {
            return NONE_SUCH;
        }
        return motions.keepsHands(i) ? 1 : 0;
    }

    public int order(int i) {
        if (!stands()) {
            return NOT_NOW;
        }
        return isSymmetry(i) ? motions.period(i) : NONE_SUCH;
    }

    public int regular() {
        if (!stands()) {
            return NOT_NOW;
        }
        // Only the symmetry that moves nothing leaves a flag in its place, so a flag comes to as many flags as
        // there are symmetries: to all of them just if both are equally many. Each edge has four flags.
        return listed() == 4 * hull.edgeCount ? 1 : 0;
    }

    private void forget() {
        motions.count = 0;
        section.count = 0;
    }

    private boolean stands() {
        return hull.faceCount > 0;
    }

    /** How many symmetries there are. They cost most, so they are sought only once asked for: there is always one. */
    private int listed() {
        if (motions.count == 0) {
            motions.list();
        }
        return motions.count;
    }

    private boolean isSymmetry(int i) {
        return i >= 0 && i < listed();
    }

    private static boolean within(int number, int most) {
        return number >= -most && number <= most;
    }

    private static boolean isAxis(int axis) {
        return axis >= 0 && axis <= 2;
    }

    private static boolean isPart(int part) {
        return part == 0 || part == 1;
    }

    private static boolean isPoint(int k) {
        return k >= 0 && k < MOST_POINTS;
    }

    private static boolean isDirection(int a, int b, int c) {
        boolean some = a != 0 || b != 0 || c != 0;
        return some && within(a, MOST_NUMBER) && within(b, MOST_NUMBER) && within(c, MOST_NUMBER);
    }

    /** A part of above / below in lowest terms; below is above 0. */
    private static long fraction(long above, long below, int part) {
        long shared = divisor(above, below);
        if (shared == 0) {
            return NOTHING;
        }
        return (part == 0 ? above : below) / shared;
    }

    /** The greatest common divisor, 0 of two zeros. */
    private static long divisor(long p, long q) {
        long greater = Math.abs(p);
        long lesser = Math.abs(q);
        // Two of Euclid's steps at least halve a number, so 128 are enough for any two.
        for (int step = 0; step < 128 && lesser != 0; step++) {
            long rest = greater % lesser;
            greater = lesser;
            lesser = rest;
        }
        return greater;
    }

    /** The points, and what is reckoned from a few of them. */
    private static final class Cloud {
        int count;
        final int[] xs = new int[MOST_POINTS];
        final int[] ys = new int[MOST_POINTS];
        final int[] zs = new int[MOST_POINTS];

        boolean has(int x, int y, int z) {
            for (int k = 0; k < count && k < MOST_POINTS; k++) {
                if (xs[k] == x && ys[k] == y && zs[k] == z) {
                    return true;
                }
            }
            return false;
        }

        void add(int x, int y, int z) {
            if (!isPoint(count)) {
                return;
            }
            xs[count] = x;
            ys[count] = y;
            zs[count] = z;
            count++;
        }

        int number(int k, int axis) {
            if (!isPoint(k)) {
                return 0;
            }
            return axis == 0 ? xs[k] : axis == 1 ? ys[k] : zs[k];
        }

        /** a X + b Y + c Z of a point. */
        long sum(int k, long a, long b, long c) {
            return isPoint(k) ? a * xs[k] + b * ys[k] + c * zs[k] : 0;
        }

        /** (q - p) x (r - p) along a, b, c: above 0 if p, q, r turn left for an eye towards which a, b, c points. */
        long swing(int p, int q, int r, long a, long b, long c) {
            if (!isPoint(p) || !isPoint(q) || !isPoint(r)) {
                return 0;
            }
            long u1 = xs[q] - xs[p];
            long u2 = ys[q] - ys[p];
            long u3 = zs[q] - zs[p];
            long v1 = xs[r] - xs[p];
            long v2 = ys[r] - ys[p];
            long v3 = zs[r] - zs[p];
            return a * (u2 * v3 - u3 * v2) + b * (u3 * v1 - u1 * v3) + c * (u1 * v2 - u2 * v1);
        }

        /** The square of (q - p) x (a, b, c): how wide apart p and q seem along a, b, c, 0 if they seem to be one. */
        long spread(int p, int q, long a, long b, long c) {
            if (!isPoint(p) || !isPoint(q)) {
                return 0;
            }
            long u1 = xs[q] - xs[p];
            long u2 = ys[q] - ys[p];
            long u3 = zs[q] - zs[p];
            long w1 = u2 * c - u3 * b;
            long w2 = u3 * a - u1 * c;
            long w3 = u1 * b - u2 * a;
            return w1 * w1 + w2 * w2 + w3 * w3;
        }

        /** The square of how far two points are from one another. */
        int distance(int p, int q) {
            if (!isPoint(p) || !isPoint(q)) {
                return 0;
            }
            int u1 = xs[q] - xs[p];
            int u2 = ys[q] - ys[p];
            int u3 = zs[q] - zs[p];
            return u1 * u1 + u2 * u2 + u3 * u3;
        }

        /** Six times the volume of the body with corners p, q, r, s; below 0 if p, q, r turn right for an eye at s. */
        long box(int p, int q, int r, int s) {
            if (!isPoint(p) || !isPoint(s)) {
                return 0;
            }
            return swing(p, q, r, xs[s] - xs[p], ys[s] - ys[p], zs[s] - zs[p]);
        }
    }

    /**
     * Some points seen along a direction (a, b, c towards the eye), and the corners of what is seen in a row,
     * round by the left. A face is one that is seen from outside along its normal; a shadow is one, too.
     */
    private static final class Outline {
        final Cloud cloud;
        long a;
        long b;
        long c;
        long level;
        /** The points that are looked at, as bits. */
        int seen;
        /** Those of them that the row has, as bits. */
        int met;
        int length;
        final int[] row = new int[MOST_POINTS];

        Outline(Cloud cloud) {
            this.cloud = cloud;
        }

        void look(long a, long b, long c, int seen) {
            this.a = a;
            this.b = b;
            this.c = c;
            this.seen = seen;
        }

        /** Looks from outside at the plane of three points; false if no face lies in it. */
        boolean face(int p, int q, int r) {
            long x = cloud.swing(p, q, r, 1, 0, 0);
            long y = cloud.swing(p, q, r, 0, 1, 0);
            long z = cloud.swing(p, q, r, 0, 0, 1);
            long shared = divisor(divisor(x, y), z);
            if (shared == 0) {
                return false;
            }
            look(x / shared, y / shared, z / shared, 0);
            level = cloud.sum(p, a, b, c);
            return turnOutward(sidesTaken());
        }

        /** Takes the points in the plane as seen; bit 0 of the answer: some lie below the plane, bit 1: above it. */
        private int sidesTaken() {
            int sides = 0;
            for (int k = 0; k < cloud.count && sides != 3; k++) {
                long height = cloud.sum(k, a, b, c) - level;
                if (height == 0) {
                    seen |= 1 << k;
                } else {
                    sides |= height < 0 ? 1 : 2;
                }
            }
            return sides;
        }

        private boolean turnOutward(int sides) {
            if (sides == 2) {
                look(-a, -b, -c, seen);
                level = -level;
            }
            return sides == 1 || sides == 2;
        }

        /** A seen point that is a corner of what is seen: that which is farthest from some point is one. */
        int rim() {
            int from = Integer.numberOfTrailingZeros(seen);
            int best = from;
            long widest = 0;
            for (int k = 0; k < MOST_POINTS; k++) {
                long wide = cloud.spread(from, k, a, b, c);
                if ((seen >> k & 1) != 0 && wide > widest) {
                    best = k;
                    widest = wide;
                }
            }
            return best;
        }

        /** Fills the row from a corner of what is seen on. */
        void trace(int start) {
            length = 0;
            met = 0;
            int p = start;
            for (int step = 0; step < MOST_POINTS; step++) {
                row[step] = p;
                met |= 1 << p;
                length = step + 1;
                p = following(p);
                // A shadow's points may seem to be one, so the row may come back to another of them than its start.
                if (cloud.spread(start, p, a, b, c) == 0) {
                    return;
                }
            }
        }

        /** The corner behind p: no seen point lies to the right of the way to it, none straight on beyond it. */
        private int following(int p) {
            int q = p;
            long reach = 0;
            for (int r = 0; r < MOST_POINTS; r++) {
                long wide = cloud.spread(p, r, a, b, c);
                if ((seen >> r & 1) == 0 || wide == 0) {
                    continue;
                }
                long swing = cloud.swing(p, q, r, a, b, c);
                if (reach == 0 || swing < 0 || swing == 0 && wide > reach) {
                    q = r;
                    reach = wide;
                }
            }
            return q;
        }

        boolean leads(Outline other) {
            for (int k = 0; k < length && k < other.length && k < MOST_POINTS; k++) {
                if (row[k] != other.row[k]) {
                    return row[k] < other.row[k];
                }
            }
            return length < other.length;
        }
    }

    /** The solid: its faces in order, and what comes from them. It is flat if there are none. */
    private static final class Hull {
        final Cloud cloud;
        final Outline[] rounds = new Outline[MOST_FACES];
        int faceCount;
        int edgeCount;
        int cornerBits;
        /** For each corner those at the other ends of its edges, as bits. */
        final int[] beside = new int[MOST_POINTS];
        long sixfold;
        /** Four times the middle's numbers, each times the sixfold volume. */
        final long[] moments = new long[3];

        Hull(Cloud cloud) {
            this.cloud = cloud;
            for (int face = 0; face < MOST_FACES; face++) {
                rounds[face] = new Outline(cloud);
            }
        }

        boolean hasFace(int face) {
            return face >= 0 && face < faceCount && face < MOST_FACES;
        }

        boolean isCorner(int k) {
            return isPoint(k) && (cornerBits >> k & 1) != 0;
        }

        void build() {
            faceCount = 0;
            for (int r = 2; r < cloud.count; r++) {
                for (int q = 1; q < r; q++) {
                    for (int p = 0; p < q; p++) {
                        tryFace(p, q, r);
                    }
                }
            }
            join();
            weigh();
        }

        private void tryFace(int p, int q, int r) {
            if (faceCount >= MOST_FACES || isKnown(1 << p | 1 << q | 1 << r)) {
                return;
            }
            Outline round = rounds[faceCount];
            if (round.face(p, q, r)) {
                round.trace(round.rim());
                round.trace(Integer.numberOfTrailingZeros(round.met));
                faceCount++;
                settle();
            }
        }

        /** Whether some face has all of these points in its plane. */
        private boolean isKnown(int bits) {
            for (int face = 0; face < faceCount && face < MOST_FACES; face++) {
                if ((rounds[face].seen & bits) == bits) {
                    return true;
                }
            }
            return false;
        }

        /** Brings the last face to its place among those before it. */
        private void settle() {
            for (int k = faceCount - 1; k > 0 && k < MOST_FACES; k--) {
                Outline late = rounds[k];
                if (!late.leads(rounds[k - 1])) {
                    return;
                }
                rounds[k] = rounds[k - 1];
                rounds[k - 1] = late;
            }
        }

        /** Finds corners and edges by going round each face. */
        private void join() {
            for (int k = 0; k < MOST_POINTS; k++) {
                beside[k] = 0;
            }
            cornerBits = 0;
            int sides = 0;
            for (int face = 0; face < faceCount && face < MOST_FACES; face++) {
                Outline round = rounds[face];
                cornerBits |= round.met;
                sides += round.length;
                for (int k = 0; k < round.length && k < MOST_POINTS; k++) {
                    int p = round.row[k];
                    int q = round.row[k + 1 < round.length && k + 1 < MOST_POINTS ? k + 1 : 0];
                    if (isPoint(p)) {
                        beside[p] |= 1 << q;
                    }
                }
            }
            edgeCount = sides / 2;
        }

        /** Sums up the bodies that the faces, in triangles, make with point 0. */
        private void weigh() {
            sixfold = 0;
            moments[0] = 0;
            moments[1] = 0;
            moments[2] = 0;
            for (int face = 0; face < faceCount && face < MOST_FACES; face++) {
                Outline round = rounds[face];
                for (int k = 2; k < round.length && k < MOST_POINTS; k++) {
                    weighOne(round.row[0], round.row[k - 1], round.row[k]);
                }
            }
        }

        private void weighOne(int p, int q, int r) {
            // Point 0 lies behind each face, from where its triangles are seen to turn right.
            long part = -cloud.box(p, q, r, 0);
            sixfold += part;
            for (int axis = 0; axis < 3; axis++) {
                int corners = cloud.number(p, axis) + cloud.number(q, axis) + cloud.number(r, axis);
                moments[axis] += part * (corners + cloud.number(0, axis));
            }
        }

        /** 2 within, 1 on a face, 0 outside. */
        int place(long x, long y, long z, long down) {
            int found = 2;
            for (int face = 0; face < faceCount && face < MOST_FACES; face++) {
                Outline round = rounds[face];
                long height = round.a * x + round.b * y + round.c * z - round.level * down;
                if (height > 0) {
                    return 0;
                }
                if (height == 0) {
                    found = 1;
                }
            }
            return found;
        }

        long greatest(long a, long b, long c) {
            long best = NOTHING;
            for (int k = 0; k < MOST_POINTS; k++) {
                if (isCorner(k)) {
                    best = Math.max(best, cloud.sum(k, a, b, c));
                }
            }
            return best;
        }

        /** The corners with a X + b Y + c Z = d, as bits. */
        int cornersAt(long a, long b, long c, long d) {
            int bits = 0;
            for (int k = 0; k < MOST_POINTS; k++) {
                if (isCorner(k) && cloud.sum(k, a, b, c) == d) {
                    bits |= 1 << k;
                }
            }
            return bits;
        }

        /** The fewest edges from a corner to another one. */
        int steps(int from, int to) {
            int reached = 1 << from;
            for (int step = 0; step < MOST_POINTS; step++) {
                if ((reached >> to & 1) != 0) {
                    return step;
                }
                reached |= besideAny(reached);
            }
            return NONE_SUCH;
        }

        private int besideAny(int bits) {
            int found = 0;
            for (int k = 0; k < MOST_POINTS; k++) {
                if ((bits >> k & 1) != 0) {
                    found |= beside[k];
                }
            }
            return found;
        }
    }

    /** The latest cut: its corners in order, each with X, Y, Z above one number that is above 0. */
    private static final class Section {
        static final int DOWN = 3;
        private static final int WIDTH = 4;

        int count;
        // Each side of a cut lies in another face, so it has no more corners than the solid has faces.
        final long[] numbers = new long[WIDTH * MOST_FACES];

        long number(int i, int what) {
            return i >= 0 && i < MOST_FACES && what >= 0 && what < WIDTH ? numbers[WIDTH * i + what] : 0;
        }

        void slice(Hull hull, long a, long b, long c, long d) {
            count = 0;
            for (int p = 0; p < MOST_POINTS; p++) {
                if (!hull.isCorner(p)) {
                    continue;
                }
                long height = hull.cloud.sum(p, a, b, c) - d;
                if (height == 0) {
                    mix(hull.cloud, p, 1, p, 0);
                }
                for (int q = 0; q < p; q++) {
                    long other = hull.cloud.sum(q, a, b, c) - d;
                    boolean apart = height < 0 && other > 0 || height > 0 && other < 0;
                    if (apart && (hull.beside[p] >> q & 1) != 0) {
                        mix(hull.cloud, p, Math.abs(other), q, Math.abs(height));
                    }
                }
            }
        }

        /** Adds the point between p and q that has so much of each. */
        private void mix(Cloud cloud, int p, long ofP, int q, long ofQ) {
            insert(ofP * cloud.number(p, 0) + ofQ * cloud.number(q, 0),
                    ofP * cloud.number(p, 1) + ofQ * cloud.number(q, 1),
                    ofP * cloud.number(p, 2) + ofQ * cloud.number(q, 2),
                    ofP + ofQ);
        }

        private void insert(long x, long y, long z, long down) {
            if (count < 0 || count >= MOST_FACES) {
                return;
            }
            int place = count;
            for (; place > 0 && leads(x, y, z, down, place - 1); place--) {
                System.arraycopy(numbers, WIDTH * (place - 1), numbers, WIDTH * place, WIDTH);
            }
            numbers[WIDTH * place] = x;
            numbers[WIDTH * place + 1] = y;
            numbers[WIDTH * place + 2] = z;
            numbers[WIDTH * place + DOWN] = down;
            count++;
        }

        /** Whether x / down, y / down, z / down comes before corner i. */
        private boolean leads(long x, long y, long z, long down, int i) {
            long otherDown = number(i, DOWN);
            long byX = x * otherDown - number(i, 0) * down;
            long byY = y * otherDown - number(i, 1) * down;
            long byZ = z * otherDown - number(i, 2) * down;
            return byX < 0 || byX == 0 && (byY < 0 || byY == 0 && byZ < 0);
        }
    }

    /** The symmetries in order: for each what it gives each corner. */
    private static final class Motions {
        final Hull hull;
        int count;
        final int[] images = new int[MOST_SYMMETRIES * MOST_POINTS];
        /** What the symmetry that is being sought gives the first points. */
        private final int[] draft = new int[MOST_POINTS];

        Motions(Hull hull) {
            this.hull = hull;
        }

        int image(int i, int corner) {
            return i >= 0 && i < MOST_SYMMETRIES && isPoint(corner) ? images[MOST_POINTS * i + corner] : 0;
        }

        void list() {
            count = 0;
            extend(0, hull.cornerBits);
        }

        /** Gives point next, and those behind it, each of the free corners that fits, the lesser first. */
        private void extend(int next, int free) {
            if (!isPoint(next)) {
                keep();
                return;
            }
            if (!hull.isCorner(next)) {
                extend(next + 1, free);
                return;
            }
            for (int to = 0; to < MOST_POINTS; to++) {
                if ((free >> to & 1) != 0 && fits(next, to)) {
                    draft[next] = to;
                    extend(next + 1, free & ~(1 << to));
                }
            }
        }

        /** Whether next may get this corner: as far from what the corners before it got as it is from them. */
        private boolean fits(int next, int to) {
            for (int k = 0; k < next && k < MOST_POINTS; k++) {
                if (hull.isCorner(k) && hull.cloud.distance(k, next) != hull.cloud.distance(draft[k], to)) {
                    return false;
                }
            }
            return true;
        }

        private void keep() {
            if (count >= 0 && count < MOST_SYMMETRIES) {
                System.arraycopy(draft, 0, images, MOST_POINTS * count, MOST_POINTS);
                count++;
            }
        }

        /** Whether symmetry i does without mirroring: a body of four corners keeps its sign then. */
        boolean keepsHands(int i) {
            Outline round = hull.rounds[0];
            int p = round.row[0];
            int q = round.row[1];
            int r = round.row[2];
            int s = Integer.numberOfTrailingZeros(hull.cornerBits & ~round.seen);
            long before = hull.cloud.box(p, q, r, s);
            return before == hull.cloud.box(image(i, p), image(i, q), image(i, r), image(i, s));
        }

        /** The least number that all rings of corners, each giving the next, have as a divisor. */
        int period(int i) {
            long least = 1;
            for (int k = 0; k < MOST_POINTS; k++) {
                long ring = hull.isCorner(k) ? ringLength(i, k) : 1;
                long shared = divisor(least, ring);
                least = shared == 0 ? least : least / shared * ring;
            }
            return (int) least;
        }

        private int ringLength(int i, int corner) {
            int here = image(i, corner);
            int length = 1;
            for (; here != corner && length < MOST_POINTS; length++) {
                here = image(i, here);
            }
            return length;
        }
    }
}
