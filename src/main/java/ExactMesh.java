import java.util.Arrays;

/**
 * Triangulates points with whole coordinates and segments between them, exactly:
 * which side, in a circle or not, is never guessed.
 */
public final class ExactMesh {
    /** The answer to questions about what is not there. */
    public static final int NONE = -1;

    private static final int MOST_VERTICES = 12;
    private static final int MOST_SEGMENTS = 10;
    private static final int MOST_HOLES = 3;
    private static final int FARTHEST = 1000000;

    // No drawing without crossings has more sides or triangles than these (Euler).
    private static final int MOST_SIDES = 3 * MOST_VERTICES - 6;
    private static final int MOST_TRIANGLES = 2 * MOST_VERTICES - 5;

    // A side that was flipped away never comes back, so 66 rounds would do.
    private static final int MOST_ROUNDS = 1000;

    private static final int REFUSED_ARGUMENT = -2;
    private static final int REFUSED_NUMBER = -3;
    private static final int REFUSED_TOUCH = -4;
    private static final int REFUSED_CROSSING = -5;
    private static final int NO_SIGN = 2;

    private final FullMesh full;
    private final Points points;
    private final Links links;
    private final Points holePoints;
    private final CarvedMesh mesh;

    /** Promise 1. */
    public ExactMesh() {
        full = new FullMesh();
        points = full.points;
        links = full.links;
        holePoints = new Points(MOST_HOLES);
        mesh = new CarvedMesh();
    }

    /** Promise 2. */
    public int vertex(int x, int y) {
        if (!isNear(x, y)) {
            return REFUSED_ARGUMENT;
        }
        int there = points.numberAt(x, y);
        if (there != NONE) {
            return there;
        }
        if (points.isFull()) {
            return REFUSED_NUMBER;
        }
        if (links.anyThrough(points, x, y)) {
            return REFUSED_TOUCH;
        }
        points.add(x, y);
        return points.count - 1;
    }

    /** Promise 3. */
    public int segment(int a, int b) {
        if (!points.has(a) || !points.has(b) || a == b) {
            return REFUSED_ARGUMENT;
        }
        if (links.join(a, b) || links.isFull()) {
            return REFUSED_NUMBER;
        }
        if (points.anyBetween(a, b)) {
            return REFUSED_TOUCH;
        }
        if (links.anyCrossing(points, a, b)) {
            return REFUSED_CROSSING;
        }
        links.add(a, b);
        return links.count - 1;
    }

    /** Promise 4. */
    public int hole(int x, int y) {
        if (!isNear(x, y)) {
            return REFUSED_ARGUMENT;
        }
        if (holePoints.isFull()) {
            return REFUSED_NUMBER;
        }
        holePoints.add(x, y);
        return holePoints.count;
    }

    /** Promise 5. */
    public int turn(int a, int b, int c) {
        if (!points.has(a) || !points.has(b) || !points.has(c)) {
            return NO_SIGN;
        }
        return points.sideOfLine(a, b, c);
    }

    /** Promise 6. */
    public int inCircle(int a, int b, int c, int d) {
        if (!points.has(a) || !points.has(b) || !points.has(c) || !points.has(d)) {
            return NO_SIGN;
        }
        int side = points.sideOfLine(a, b, c);
        // Seen clockwise, a circle's inside counts as its outside.
        return side == 0 ? NO_SIGN : side * points.sideOfCircle(a, b, c, d);
    }

    /** Promise 7. */
    public int build(boolean holes, boolean outside) {
        full.drawSides();
        full.findTriangles();
        full.makeSidesGood();
        mesh.copyFrom(full);
        if (holes) {
            mesh.markHoles(points, holePoints);
        }
        if (outside) {
            mesh.markOutside();
        }
        mesh.spreadMarks();
        mesh.dropMarked();
        return mesh.count;
    }

    /** Promise 8. */
    public int triangles() {
        return mesh.count;
    }

    /** Promise 9. */
    public int corner(int t, int k) {
        return mesh.hasSide(t, k) ? mesh.cornerOf(t, k) : NONE;
    }

    /** Promise 10. */
    public int across(int t, int k) {
        return mesh.hasSide(t, k) ? mesh.beyond(t, k) : NONE;
    }

    /** Promise 11. */
    public boolean fixed(int t, int k) {
        return mesh.hasSide(t, k) && mesh.isFixed(t, k);
    }

    /** Promise 12. */
    public int locate(int x, int y) {
        for (int t = 0; t < mesh.count; t++) {
            if (mesh.holds(points, t, x, y)) {
                return t;
            }
        }
        return NONE;
    }

    /** Promise 13. */
    public int degree(int v) {
        return points.has(v) ? mesh.trianglesAt(v) : NONE;
    }

    /** Promise 14. */
    public long area() {
        long sum = 0;
        for (int t = 0; t < mesh.count; t++) {
            sum += mesh.doubleArea(points, t);
        }
        return sum;
    }

    /** Promise 15. */
    public int border() {
        return mesh.openSides();
    }

    /** Promise 16. */
    public int vertices() {
        return points.count;
    }

    /** Promise 17. */
    public int segments() {
        return links.count;
    }

    /** Promise 18. */
    public int place(int v, int k) {
        if (!points.has(v)) {
            return 0;
        }
        if (k == 0) {
            return points.x[v];
        }
        return k == 1 ? points.y[v] : 0;
    }

    private static boolean isNear(int x, int y) {
        return x >= -FARTHEST && x <= FARTHEST && y >= -FARTHEST && y <= FARTHEST;
    }

    /** Arithmetic on whole numbers that never rounds nor overflows in the ranges named. */
    private static final class Exact {
        private static final int LIMB_BITS = 22;
        private static final long LIMB_MASK = (1L << LIMB_BITS) - 1;

        static int signOf(long a) {
            if (a == 0) {
                return 0;
            }
            return a > 0 ? 1 : -1;
        }

        /** The sign of a * b + c * d + e * f, for numbers between -2^43 and 2^43. */
        static int signOfProducts(long a, long b, long c, long d, long e, long f) {
            long high = upper(a) * upper(b) + upper(c) * upper(d) + upper(e) * upper(f);
            long middle = mixed(a, b) + mixed(c, d) + mixed(e, f);
            long low = lower(a) * lower(b) + lower(c) * lower(d) + lower(e) * lower(f);
            // The two lower limbs are brought to 0 .. 2^22 - 1: then the first that is not 0 tells.
            middle += low >> LIMB_BITS;
            high += middle >> LIMB_BITS;
            if (high != 0) {
                return signOf(high);
            }
            return ((middle | low) & LIMB_MASK) == 0 ? 0 : 1;
        }

        private static long mixed(long a, long b) {
            return (a >> LIMB_BITS) * (b & LIMB_MASK) + (a & LIMB_MASK) * (b >> LIMB_BITS);
        }

        private static long upper(long a) {
            return a >> LIMB_BITS;
        }

        private static long lower(long a) {
            return a & LIMB_MASK;
        }
    }

    /** Points by number, and what is asked of where they lie. */
    private static final class Points {
        private final int[] x;
        private final int[] y;
        private int count;

        Points(int most) {
            x = new int[most];
            y = new int[most];
            count = 0;
        }

        boolean has(int v) {
            return v >= 0 && v < count;
        }

        boolean isFull() {
            return count >= x.length;
        }

        void add(int px, int py) {
            if (!isFull()) {
                x[count] = px;
                y[count] = py;
                count++;
            }
        }

        int numberAt(int px, int py) {
            for (int v = 0; v < count; v++) {
                if (x[v] == px && y[v] == py) {
                    return v;
                }
            }
            return NONE;
        }

        /** Twice the area of the triangle a, b, (px, py): above 0 if the point lies to the left. */
        long leftness(int a, int b, int px, int py) {
            // The widths first: a point to locate may be any ints, and their differences leave int.
            long width = (long) x[b] - x[a];
            long height = (long) y[b] - y[a];
            return width * ((long) py - y[a]) - height * ((long) px - x[a]);
        }

        int sideOfLine(int a, int b, int c) {
            return Exact.signOf(leftness(a, b, x[c], y[c]));
        }

        /** 1 if d lies inside the circle through a, b, c (counterclockwise), 0 if on it, -1 if outside. */
        int sideOfCircle(int a, int b, int c, int d) {
            return Exact.signOfProducts(
                squareDistance(a, d), leftness(b, c, x[d], y[d]),
                squareDistance(b, d), leftness(c, a, x[d], y[d]),
                squareDistance(c, d), leftness(a, b, x[d], y[d]));
        }

        private long squareDistance(int a, int b) {
            long width = (long) x[b] - x[a];
            long height = (long) y[b] - y[a];
            return width * width + height * height;
        }

        /** Whether the point lies on the straight stretch from a to b, its ends among it. */
        boolean isBetween(int a, int b, int px, int py) {
            return px >= Math.min(x[a], x[b]) && px <= Math.max(x[a], x[b])
                && py >= Math.min(y[a], y[b]) && py <= Math.max(y[a], y[b])
                && leftness(a, b, px, py) == 0;
        }

        /** Whether a third point lies on the stretch from a to b. */
        boolean anyBetween(int a, int b) {
            for (int v = 0; v < count; v++) {
                if (v != a && v != b && isBetween(a, b, x[v], y[v])) {
                    return true;
                }
            }
            return false;
        }

        /** Whether a fourth point lies inside the triangle a, b, c (counterclockwise). */
        boolean anyInside(int a, int b, int c) {
            for (int v = 0; v < count; v++) {
                if (sideOfLine(a, b, v) > 0 && sideOfLine(b, c, v) > 0 && sideOfLine(c, a, v) > 0) {
                    return true;
                }
            }
            return false;
        }

        /** Whether the stretches a to b and c to d cross at a point that is an end of neither. */
        boolean areCrossing(int a, int b, int c, int d) {
            return sideOfLine(a, b, c) * sideOfLine(a, b, d) < 0
                && sideOfLine(c, d, a) * sideOfLine(c, d, b) < 0;
        }
    }

    /** Straight links between points, none of which cross. */
    private static final class Links {
        private final int[] from;
        private final int[] to;
        /** Bit b of row a tells whether a and b are linked. */
        private final int[] reach;
        private int count;

        Links(int most) {
            from = new int[most];
            to = new int[most];
            reach = new int[MOST_VERTICES];
            count = 0;
        }

        boolean isFull() {
            return count >= from.length;
        }

        void clear() {
            Arrays.fill(reach, 0);
            count = 0;
        }

        void add(int a, int b) {
            if (!isFull()) {
                from[count] = a;
                to[count] = b;
                count++;
                reach[a] |= 1 << b;
                reach[b] |= 1 << a;
            }
        }

        void addAll(Links others) {
            for (int i = 0; i < others.count; i++) {
                add(others.from[i], others.to[i]);
            }
        }

        boolean join(int a, int b) {
            return (reach[a] >> b & 1) != 0;
        }

        boolean anyThrough(Points points, int px, int py) {
            for (int i = 0; i < count; i++) {
                if (points.isBetween(from[i], to[i], px, py)) {
                    return true;
                }
            }
            return false;
        }

        /**
         * Whether a link crosses the stretch from a to b. Where no point lies on a link or on the
         * stretch but their ends, this is the only way to have more than an end in common.
         */
        boolean anyCrossing(Points points, int a, int b) {
            for (int i = 0; i < count; i++) {
                if (points.areCrossing(a, b, from[i], to[i])) {
                    return true;
                }
            }
            return false;
        }
    }

    /** The vertices, the segments and their full mesh, held as the third corner behind each side. */
    private static final class FullMesh {
        private final Points points;
        private final Links links;
        private final Links sides;
        /** At a * MOST_VERTICES + b the c of the triangle a, b, c (counterclockwise), or NONE. */
        private final int[] third;

        FullMesh() {
            points = new Points(MOST_VERTICES);
            links = new Links(MOST_SEGMENTS);
            sides = new Links(MOST_SIDES);
            third = new int[MOST_VERTICES * MOST_VERTICES];
        }

        int thirdOf(int a, int b) {
            return third[a * MOST_VERTICES + b];
        }

        private void setThird(int a, int b, int c) {
            third[a * MOST_VERTICES + b] = c;
        }

        private void setTriangle(int a, int b, int c) {
            setThird(a, b, c);
            setThird(b, c, a);
            setThird(c, a, b);
        }

        /** Draws sides until no other fits: the gaps between them are triangles then. */
        void drawSides() {
            sides.clear();
            sides.addAll(links);
            for (int a = 0; a < points.count; a++) {
                for (int b = a + 1; b < points.count; b++) {
                    if (hasRoom(a, b)) {
                        sides.add(a, b);
                    }
                }
            }
        }

        private boolean hasRoom(int a, int b) {
            return !sides.join(a, b) && !points.anyBetween(a, b) && !sides.anyCrossing(points, a, b);
        }

        void findTriangles() {
            Arrays.fill(third, NONE);
            for (int a = 0; a < points.count; a++) {
                for (int b = a + 1; b < points.count; b++) {
                    if (sides.join(a, b)) {
                        findTrianglesAt(a, b);
                    }
                }
            }
        }

        private void findTrianglesAt(int a, int b) {
            for (int c = b + 1; c < points.count; c++) {
                if (sides.join(a, c) && sides.join(b, c)) {
                    if (points.sideOfLine(a, b, c) > 0) {
                        setIfEmpty(a, b, c);
                    } else {
                        setIfEmpty(a, c, b);
                    }
                }
            }
        }

        private void setIfEmpty(int a, int b, int c) {
            if (!points.anyInside(a, b, c)) {
                setTriangle(a, b, c);
            }
        }

        void makeSidesGood() {
            boolean flipped = true;
            for (int round = 0; flipped && round < MOST_ROUNDS; round++) {
                flipped = flipBadSides();
            }
        }

        private boolean flipBadSides() {
            boolean flipped = false;
            for (int a = 0; a < points.count; a++) {
                for (int b = a + 1; b < points.count; b++) {
                    if (isBad(a, b)) {
                        flip(a, b);
                        flipped = true;
                    }
                }
            }
            return flipped;
        }

        private boolean isBad(int a, int b) {
            int c = thirdOf(a, b);
            int d = thirdOf(b, a);
            if (c == NONE || d == NONE || links.join(a, b)) {
                return false;
            }
            int side = points.sideOfCircle(a, b, c, d);
            return side > 0 || side == 0 && Math.min(c, d) < Math.min(a, b);
        }

        /** The four corners of a bad side form a convex figure, so its other diagonal fits. */
        private void flip(int a, int b) {
            int c = thirdOf(a, b);
            int d = thirdOf(b, a);
            setThird(a, b, NONE);
            setThird(b, a, NONE);
            setTriangle(a, d, c);
            setTriangle(d, b, c);
        }
    }

    /** The numbered triangles that the latest build has left. */
    private static final class CarvedMesh {
        private final int[] corners;
        private final boolean[] marked;
        /** At a * MOST_VERTICES + b the triangle with the side from a to b, or NONE. */
        private final int[] owner;
        /** The segments of the latest build: bit b of row a. */
        private final int[] segmentReach;
        private int count;

        CarvedMesh() {
            corners = new int[3 * MOST_TRIANGLES];
            marked = new boolean[MOST_TRIANGLES];
            owner = new int[MOST_VERTICES * MOST_VERTICES];
            segmentReach = new int[MOST_VERTICES];
            count = 0;
        }

        boolean hasSide(int t, int k) {
            return t >= 0 && t < count && k >= 0 && k <= 2;
        }

        int cornerOf(int t, int k) {
            return corners[3 * t + k];
        }

        private int endOf(int t, int k) {
            return cornerOf(t, k == 2 ? 0 : k + 1);
        }

        int beyond(int t, int k) {
            return owner[endOf(t, k) * MOST_VERTICES + cornerOf(t, k)];
        }

        boolean isFixed(int t, int k) {
            return (segmentReach[cornerOf(t, k)] >> endOf(t, k) & 1) != 0;
        }

        boolean holds(Points points, int t, int px, int py) {
            for (int k = 0; k < 3; k++) {
                if (points.leftness(cornerOf(t, k), endOf(t, k), px, py) < 0) {
                    return false;
                }
            }
            return true;
        }

        long doubleArea(Points points, int t) {
            int last = cornerOf(t, 2);
            return points.leftness(cornerOf(t, 0), cornerOf(t, 1), points.x[last], points.y[last]);
        }

        int trianglesAt(int v) {
            int found = 0;
            for (int i = 0; i < 3 * count; i++) {
                if (corners[i] == v) {
                    found++;
                }
            }
            return found;
        }

        int openSides() {
            int found = 0;
            for (int t = 0; t < count; t++) {
                for (int k = 0; k < 3; k++) {
                    if (beyond(t, k) == NONE) {
                        found++;
                    }
                }
            }
            return found;
        }

        /** Takes all triangles of the full mesh, found in the order in which they are numbered. */
        void copyFrom(FullMesh full) {
            System.arraycopy(full.links.reach, 0, segmentReach, 0, MOST_VERTICES);
            clear();
            for (int a = 0; a < full.points.count; a++) {
                for (int b = a + 1; b < full.points.count; b++) {
                    int c = full.thirdOf(a, b);
                    if (c > a) {
                        add(a, b, c);
                    }
                }
            }
        }

        private void clear() {
            Arrays.fill(owner, NONE);
            count = 0;
        }

        private void add(int a, int b, int c) {
            if (count < MOST_TRIANGLES) {
                corners[3 * count] = a;
                corners[3 * count + 1] = b;
                corners[3 * count + 2] = c;
                owner[a * MOST_VERTICES + b] = count;
                owner[b * MOST_VERTICES + c] = count;
                owner[c * MOST_VERTICES + a] = count;
                marked[count] = false;
                count++;
            }
        }

        void markHoles(Points points, Points holes) {
            for (int h = 0; h < holes.count; h++) {
                for (int t = 0; t < count; t++) {
                    if (holds(points, t, holes.x[h], holes.y[h])) {
                        marked[t] = true;
                    }
                }
            }
        }

        void markOutside() {
            for (int t = 0; t < count; t++) {
                for (int k = 0; k < 3; k++) {
                    if (beyond(t, k) == NONE && !isFixed(t, k)) {
                        marked[t] = true;
                    }
                }
            }
        }

        void spreadMarks() {
            boolean spread = true;
            // Each round but the last marks at least one more.
            for (int round = 0; spread && round <= MOST_TRIANGLES; round++) {
                spread = false;
                for (int t = 0; t < count; t++) {
                    if (!marked[t] && isBesideMarked(t)) {
                        marked[t] = true;
                        spread = true;
                    }
                }
            }
        }

        private boolean isBesideMarked(int t) {
            for (int k = 0; k < 3; k++) {
                int other = beyond(t, k);
                if (other != NONE && marked[other] && !isFixed(t, k)) {
                    return true;
                }
            }
            return false;
        }

        /** Closes the gaps in place: a triangle only ever moves to a lower or its own number. */
        void dropMarked() {
            int before = count;
            clear();
            for (int t = 0; t < before; t++) {
                if (!marked[t]) {
                    add(cornerOf(t, 0), cornerOf(t, 1), cornerOf(t, 2));
                }
            }
        }
    }
}
