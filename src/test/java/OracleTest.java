import java.math.BigInteger;
import java.util.ArrayList;
import java.util.List;

/**
 * Drawn-up runs of calls, each answer held against the document's definitions, worked out anew here:
 * the full mesh is not computed a second time but checked to be what the document calls one.
 */
public final class OracleTest {
    private static final int KINDS = 9;
    private static final int RUNS_PER_KIND = 400;
    private static final int MOST_SHOWN = 20;

    private static int wrong = 0;
    private static int callsOfObject = 0;
    private static int mostCalls = 0;
    private static int triangleSum = 0;
    private static int carvedSum = 0;

    public static void main(String[] args) {
        for (int kind = 0; kind < KINDS; kind++) {
            for (int run = 0; run < RUNS_PER_KIND; run++) {
                new Run(kind, run).play();
            }
        }
        dueAtLeast("triangles seen", triangleSum, 10000);
        dueAtLeast("triangles carved away", carvedSum, 3000);
        dueAtLeast("calls an object may have left", 512 - mostCalls, 0);
        System.out.println(wrong == 0 ? "all answers are as due" : wrong + " answers are not as due");
        if (wrong != 0) {
            System.exit(1);
        }
    }

    private static void report(String text) {
        wrong++;
        if (wrong <= MOST_SHOWN) {
            System.out.println(text);
        }
    }

    private static void dueAtLeast(String what, int got, int least) {
        if (got < least) {
            report(what + ": " + got + ", due is at least " + least);
        }
    }

    /** The same numbers in every run of the test. */
    private static final class Draw {
        private long state;

        Draw(long seed) {
            state = seed * 0x9E3779B97F4A7C15L + 12345;
        }

        int below(int bound) {
            state = state * 6364136223846793005L + 1442695040888963407L;
            return (int) ((state >>> 33) % bound);
        }

        int from(int least, int greatest) {
            return least + below(greatest - least + 1);
        }
    }

    private static final class Plan {
        final List<long[]> vertices = new ArrayList<>();
        final List<int[]> segments = new ArrayList<>();
        final List<long[]> holes = new ArrayList<>();

        private static boolean isFar(long x, long y) {
            return Math.abs(x) > 1000000 || Math.abs(y) > 1000000;
        }

        boolean has(int v) {
            return v >= 0 && v < vertices.size();
        }

        int vertex(int x, int y) {
            if (isFar(x, y)) {
                return -2;
            }
            for (int v = 0; v < vertices.size(); v++) {
                if (vertices.get(v)[0] == x && vertices.get(v)[1] == y) {
                    return v;
                }
            }
            if (vertices.size() == 12) {
                return -3;
            }
            long[] p = {x, y};
            for (int[] s : segments) {
                if (isOn(p, vertices.get(s[0]), vertices.get(s[1]))) {
                    return -4;
                }
            }
            vertices.add(p);
            return vertices.size() - 1;
        }

        int segment(int a, int b) {
            if (!has(a) || !has(b) || a == b) {
                return -2;
            }
            if (isSegment(segments, a, b) || segments.size() == 10) {
                return -3;
            }
            for (int v = 0; v < vertices.size(); v++) {
                if (v != a && v != b && isOn(vertices.get(v), vertices.get(a), vertices.get(b))) {
                    return -4;
                }
            }
            for (int[] s : segments) {
                if (isClash(a, b, s[0], s[1])) {
                    return -5;
                }
            }
            segments.add(new int[] {a, b});
            return segments.size() - 1;
        }

        int hole(int x, int y) {
            if (isFar(x, y)) {
                return -2;
            }
            if (holes.size() == 3) {
                return -3;
            }
            holes.add(new long[] {x, y});
            return holes.size();
        }

        /** Whether two stretches have a point in common that is not an end of both. */
        private boolean isClash(int a, int b, int c, int d) {
            if (a == c || a == d || b == c || b == d) {
                int shared = a == c || a == d ? a : b;
                long[] s = vertices.get(shared);
                long[] p = vertices.get(a + b - shared);
                long[] q = vertices.get(c + d - shared);
                return cross(s, p, q) == 0 && dot(s, p, q) > 0;
            }
            return isMeeting(vertices.get(a), vertices.get(b), vertices.get(c), vertices.get(d));
        }

        int turn(int a, int b, int c) {
            if (!has(a) || !has(b) || !has(c)) {
                return 2;
            }
            return Long.signum(cross(vertices.get(a), vertices.get(b), vertices.get(c)));
        }

        int inCircle(int a, int b, int c, int d) {
            if (!has(d) || turn(a, b, c) == 2 || turn(a, b, c) == 0) {
                return 2;
            }
            return turn(a, b, c) * circle(vertices.get(a), vertices.get(b), vertices.get(c), vertices.get(d));
        }
    }

    private static boolean isSegment(List<int[]> segments, int a, int b) {
        for (int[] s : segments) {
            if (s[0] == a && s[1] == b || s[0] == b && s[1] == a) {
                return true;
            }
        }
        return false;
    }

    private static long cross(long[] o, long[] p, long[] q) {
        return Math.subtractExact(Math.multiplyExact(p[0] - o[0], q[1] - o[1]),
            Math.multiplyExact(p[1] - o[1], q[0] - o[0]));
    }

    private static long dot(long[] o, long[] p, long[] q) {
        return Math.addExact(Math.multiplyExact(p[0] - o[0], q[0] - o[0]),
            Math.multiplyExact(p[1] - o[1], q[1] - o[1]));
    }

    private static boolean isOn(long[] p, long[] a, long[] b) {
        return cross(p, a, b) == 0 && dot(p, a, b) <= 0;
    }

    private static boolean isMeeting(long[] a, long[] b, long[] c, long[] d) {
        if (isOn(a, c, d) || isOn(b, c, d) || isOn(c, a, b) || isOn(d, a, b)) {
            return true;
        }
        return Long.signum(cross(a, b, c)) * Long.signum(cross(a, b, d)) < 0
            && Long.signum(cross(c, d, a)) * Long.signum(cross(c, d, b)) < 0;
    }

    /** The sign of the determinant of the rows (x, y, x^2 + y^2, 1) of the four points. */
    private static int circle(long[]... p) {
        BigInteger sum = BigInteger.ZERO;
        for (int i = 0; i < 4; i++) {
            long[][] rest = new long[3][];
            for (int j = 0, n = 0; j < 4; j++) {
                if (j != i) {
                    rest[n++] = p[j];
                }
            }
            BigInteger lift = BigInteger.valueOf(p[i][0] * p[i][0] + p[i][1] * p[i][1]);
            BigInteger term = lift.multiply(BigInteger.valueOf(cross(rest[0], rest[1], rest[2])));
            sum = i % 2 == 0 ? sum.add(term) : sum.subtract(term);
        }
        return sum.signum();
    }

    /** One drawn-up run: some calls, a build, all questions, and both again. */
    private static final class Run {
        private final int kind;
        private final int number;
        private final Draw draw;
        private final Plan plan = new Plan();
        private final ExactMesh tested = new ExactMesh();
        private List<int[]> mesh = new ArrayList<>();
        private List<int[]> fixedThen = new ArrayList<>();

        Run(int kind, int number) {
            this.kind = kind;
            this.number = number;
            draw = new Draw(kind * 1000003L + number);
        }

        void play() {
            callsOfObject = 0;
            for (int part = 0; part < 2; part++) {
                change(part == 0 ? draw.from(0, 14) : draw.from(0, 5), draw.from(0, 12));
                build(draw.below(2) == 1, draw.below(2) == 1);
                if (draw.below(2) == 1) {
                    change(draw.below(3), draw.below(3));
                }
                askMesh();
                askSigns();
            }
            mostCalls = Math.max(mostCalls, callsOfObject);
        }

        private void due(String call, long got, long want) {
            callsOfObject++;
            if (got != want) {
                report("kind " + kind + " run " + number + ": " + call + " answered " + got + ", due is " + want);
            }
        }

        private void change(int vertices, int segments) {
            for (int i = 0; i < vertices; i++) {
                int[] p = drawPoint();
                due("vertex(" + p[0] + ", " + p[1] + ")", tested.vertex(p[0], p[1]), plan.vertex(p[0], p[1]));
            }
            for (int i = 0; i < segments; i++) {
                int a = draw.from(draw.below(8) == 0 ? -1 : 0, plan.vertices.size());
                int b = draw.below(3) == 0 ? a + 1 : draw.from(0, plan.vertices.size());
                due("segment(" + a + ", " + b + ")", tested.segment(a, b), plan.segment(a, b));
            }
            for (int i = draw.below(3); i > 0; i--) {
                int[] p = drawPoint();
                due("hole(" + p[0] + ", " + p[1] + ")", tested.hole(p[0], p[1]), plan.hole(p[0], p[1]));
            }
            due("vertices()", tested.vertices(), plan.vertices.size());
            due("segments()", tested.segments(), plan.segments.size());
        }

        private int[] drawPoint() {
            switch (kind) {
                case 0: return new int[] {draw.from(0, 3), draw.from(0, 3)};
                case 1: return new int[] {draw.from(-4, 4), draw.from(-4, 4)};
                case 2: return new int[] {draw.from(-1000001, 1000001), draw.from(-1000001, 1000001)};
                case 3: return onCircle(1);
                case 4: return onCircle(15384);
                case 5: return onLine();
                case 6: return inFarCorner();
                case 7: return nearSlantedLine();
                default: return new int[] {draw.from(-20, 20), draw.from(0, 1)};
            }
        }

        /** On the circle of radius 65 times the scale, or its middle. */
        private int[] onCircle(int scale) {
            int[][] legs = {{65, 0}, {63, 16}, {60, 25}, {56, 33}, {52, 39}};
            int[] leg = legs[draw.below(5)];
            int x = (draw.below(2) == 0 ? 1 : -1) * scale;
            int y = (draw.below(2) == 0 ? 1 : -1) * scale;
            if (draw.below(25) == 0) {
                return new int[] {0, 0};
            }
            int nudge = draw.below(10) == 0 ? 1 : 0;
            return draw.below(2) == 0 ? new int[] {leg[0] * x + nudge, leg[1] * y} : new int[] {leg[1] * x, leg[0] * y};
        }

        private int[] onLine() {
            int step = draw.from(-6, 6);
            return new int[] {step * 3 + (draw.below(12) == 0 ? 1 : 0), step * 2};
        }

        private int[] inFarCorner() {
            int x = 1000000 - draw.below(3);
            int y = 1000000 - draw.below(3);
            return new int[] {draw.below(2) == 0 ? x : -x, draw.below(2) == 0 ? y : -y};
        }

        private int[] nearSlantedLine() {
            int step = draw.from(-9, 9);
            return new int[] {step * 110000 + draw.from(-1, 1), step * 109999 + draw.from(-1, 1)};
        }

        private void build(boolean holes, boolean outside) {
            List<int[]> full = checkedFullMesh();
            mesh = carve(full, holes, outside);
            fixedThen = new ArrayList<>(plan.segments);
            triangleSum += full.size();
            carvedSum += full.size() - mesh.size();
            due("build(" + holes + ", " + outside + ")", tested.build(holes, outside), mesh.size());
        }

        /** The full mesh as a fresh object tells it, after a check that it is the full mesh. */
        private List<int[]> checkedFullMesh() {
            ExactMesh fresh = new ExactMesh();
            for (long[] p : plan.vertices) {
                fresh.vertex((int) p[0], (int) p[1]);
            }
            for (int[] s : plan.segments) {
                fresh.segment(s[0], s[1]);
            }
            int count = fresh.build(false, false);
            List<int[]> full = new ArrayList<>();
            for (int t = 0; t < count; t++) {
                full.add(new int[] {fresh.corner(t, 0), fresh.corner(t, 1), fresh.corner(t, 2)});
            }
            String fault = faultOf(full);
            if (fault != null) {
                report("kind " + kind + " run " + number + ": the full mesh is wrong: " + fault);
            }
            return full;
        }

        private String faultOf(List<int[]> full) {
            String fault = faultOfOrder(full);
            if (fault != null) {
                return fault;
            }
            if (hullArea() == 0) {
                return full.isEmpty() ? null : "triangles without a hull";
            }
            if (areaOf(full) != hullArea()) {
                return "the hull is not filled";
            }
            for (int s = 0; s < full.size(); s++) {
                for (int t = s + 1; t < full.size(); t++) {
                    if (!isApart(full.get(s), full.get(t)) && !isApart(full.get(t), full.get(s))) {
                        return "triangles " + s + " and " + t + " overlap";
                    }
                }
            }
            fault = faultOfVertices(full);
            return fault != null ? fault : faultOfSides(full);
        }

        private String faultOfOrder(List<int[]> full) {
            for (int t = 0; t < full.size(); t++) {
                int[] c = full.get(t);
                if (c[0] >= c[1] || c[0] >= c[2] || plan.turn(c[0], c[1], c[2]) != 1) {
                    return "corners of triangle " + t;
                }
                if (t > 0 && full.get(t - 1)[0] * 100 + full.get(t - 1)[1] >= c[0] * 100 + c[1]) {
                    return "order of triangle " + t;
                }
            }
            return null;
        }

        private long areaOf(List<int[]> some) {
            long sum = 0;
            for (int[] c : some) {
                sum += cross(at(c[0]), at(c[1]), at(c[2]));
            }
            return sum;
        }

        private long[] at(int v) {
            return plan.vertices.get(v);
        }

        /** Twice the hull's area: the sum over all pairs that have no vertex on their right. */
        private long hullArea() {
            long sum = 0;
            int n = plan.vertices.size();
            for (int a = 0; a < n; a++) {
                for (int b = 0; b < n; b++) {
                    if (a != b && isHullSide(a, b)) {
                        sum += at(a)[0] * at(b)[1] - at(a)[1] * at(b)[0];
                    }
                }
            }
            return sum;
        }

        /** Whether a to b is a whole side of the hull, with the hull on its left. */
        private boolean isHullSide(int a, int b) {
            for (int v = 0; v < plan.vertices.size(); v++) {
                long left = cross(at(a), at(b), at(v));
                if (left < 0 || left == 0 && !isOn(at(v), at(a), at(b))) {
                    return false;
                }
            }
            return true;
        }

        /** Whether a side of s has all of t on its right. */
        private boolean isApart(int[] s, int[] t) {
            for (int k = 0; k < 3; k++) {
                long[] p = at(s[k]);
                long[] q = at(s[(k + 1) % 3]);
                if (cross(p, q, at(t[0])) <= 0 && cross(p, q, at(t[1])) <= 0 && cross(p, q, at(t[2])) <= 0) {
                    return true;
                }
            }
            return false;
        }

        private String faultOfVertices(List<int[]> full) {
            for (int v = 0; v < plan.vertices.size(); v++) {
                if (degreeIn(full, v) == 0) {
                    return "vertex " + v + " is no corner";
                }
                for (int[] c : full) {
                    for (int k = 0; k < 3; k++) {
                        int a = c[k];
                        int b = c[(k + 1) % 3];
                        if (v != a && v != b && isOn(at(v), at(a), at(b))) {
                            return "vertex " + v + " on the side " + a + "-" + b;
                        }
                    }
                }
            }
            return null;
        }

        private String faultOfSides(List<int[]> full) {
            for (int[] s : plan.segments) {
                if (ownerOf(full, s[0], s[1]) == -1 && ownerOf(full, s[1], s[0]) == -1) {
                    return "segment " + s[0] + "-" + s[1] + " is no side";
                }
            }
            for (int[] c : full) {
                for (int k = 0; k < 3; k++) {
                    int a = c[k];
                    int b = c[(k + 1) % 3];
                    int other = ownerOf(full, b, a);
                    if (other != -1 && !isSegment(plan.segments, a, b)) {
                        int d = full.get(other)[0] + full.get(other)[1] + full.get(other)[2] - a - b;
                        if (!isGood(a, b, c[(k + 2) % 3], d)) {
                            return "side " + a + "-" + b + " is not good";
                        }
                    }
                }
            }
            return null;
        }

        private boolean isGood(int a, int b, int c, int d) {
            int side = plan.inCircle(a, b, c, d);
            int least = Math.min(Math.min(a, b), Math.min(c, d));
            return side == -1 || side == 0 && (a == least || b == least);
        }

        private int ownerOf(List<int[]> some, int a, int b) {
            for (int t = 0; t < some.size(); t++) {
                for (int k = 0; k < 3; k++) {
                    if (some.get(t)[k] == a && some.get(t)[(k + 1) % 3] == b) {
                        return t;
                    }
                }
            }
            return -1;
        }

        private int degreeIn(List<int[]> some, int v) {
            int found = 0;
            for (int[] c : some) {
                found += c[0] == v || c[1] == v || c[2] == v ? 1 : 0;
            }
            return found;
        }

        private List<int[]> carve(List<int[]> full, boolean holes, boolean outside) {
            boolean[] out = new boolean[full.size()];
            List<Integer> open = new ArrayList<>();
            for (int t = 0; t < full.size(); t++) {
                if (holes && hasHole(full.get(t)) || outside && isOpen(full, t)) {
                    out[t] = true;
                    open.add(t);
                }
            }
            while (!open.isEmpty()) {
                int[] c = full.get(open.remove(open.size() - 1));
                for (int k = 0; k < 3; k++) {
                    int other = ownerOf(full, c[(k + 1) % 3], c[k]);
                    if (other != -1 && !out[other] && !isSegment(plan.segments, c[k], c[(k + 1) % 3])) {
                        out[other] = true;
                        open.add(other);
                    }
                }
            }
            List<int[]> left = new ArrayList<>();
            for (int t = 0; t < full.size(); t++) {
                if (!out[t]) {
                    left.add(full.get(t));
                }
            }
            return left;
        }

        private boolean hasHole(int[] c) {
            for (long[] p : plan.holes) {
                if (isIn(c, p)) {
                    return true;
                }
            }
            return false;
        }

        private boolean isOpen(List<int[]> full, int t) {
            int[] c = full.get(t);
            for (int k = 0; k < 3; k++) {
                int a = c[k];
                int b = c[(k + 1) % 3];
                if (ownerOf(full, b, a) == -1 && !isSegment(plan.segments, a, b)) {
                    return true;
                }
            }
            return false;
        }

        /** Whether the areas seen from p add up to the triangle's own. */
        private boolean isIn(int[] c, long[] p) {
            long[] a = at(c[0]);
            long[] b = at(c[1]);
            long[] d = at(c[2]);
            long parts = Math.abs(cross(p, a, b)) + Math.abs(cross(p, b, d)) + Math.abs(cross(p, d, a));
            return parts == cross(a, b, d);
        }

        private void askMesh() {
            due("triangles()", tested.triangles(), mesh.size());
            int border = 0;
            for (int t = 0; t < mesh.size(); t++) {
                for (int k = 0; k < 3; k++) {
                    int a = mesh.get(t)[k];
                    int b = mesh.get(t)[(k + 1) % 3];
                    String where = "(" + t + ", " + k + ")";
                    due("corner" + where, tested.corner(t, k), a);
                    due("across" + where, tested.across(t, k), ownerOf(mesh, b, a));
                    due("fixed" + where, tested.fixed(t, k) ? 1 : 0, isSegment(fixedThen, a, b) ? 1 : 0);
                    border += ownerOf(mesh, b, a) == -1 ? 1 : 0;
                }
            }
            due("border()", tested.border(), border);
            due("area()", tested.area(), areaOf(mesh));
            for (int v = -1; v <= plan.vertices.size(); v++) {
                due("degree(" + v + ")", tested.degree(v), plan.has(v) ? degreeIn(mesh, v) : -1);
            }
            askPlaces();
        }

        private void askPlaces() {
            for (int i = 0; i < 12; i++) {
                int[] p = i < 10 ? drawPoint() : new int[] {draw.below(2) * -1 ^ 1 << 31, draw.from(-5, 5)};
                int want = -1;
                for (int t = mesh.size() - 1; t >= 0; t--) {
                    want = isIn(mesh.get(t), new long[] {p[0], p[1]}) ? t : want;
                }
                due("locate(" + p[0] + ", " + p[1] + ")", tested.locate(p[0], p[1]), want);
            }
            for (int i = 0; i < 3; i++) {
                int v = draw.from(-1, plan.vertices.size());
                int k = draw.from(-1, 2);
                long want = plan.has(v) && (k == 0 || k == 1) ? at(v)[k] : 0;
                due("place(" + v + ", " + k + ")", tested.place(v, k), want);
            }
        }

        private void askSigns() {
            int n = plan.vertices.size();
            int least = draw.below(4) == 0 ? -1 : 0;
            for (int i = 0; i < 5; i++) {
                int a = draw.from(least, n);
                int b = draw.from(0, Math.max(n - 1, 0));
                int c = draw.from(0, Math.max(n - 1, 0));
                int d = draw.from(0, Math.max(n - 1, 0));
                due("turn(" + a + ", " + b + ", " + c + ")", tested.turn(a, b, c), plan.turn(a, b, c));
                due("inCircle(" + a + ", " + b + ", " + c + ", " + d + ")",
                    tested.inCircle(a, b, c, d), plan.inCircle(a, b, c, d));
            }
        }
    }
}
