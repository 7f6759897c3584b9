/** Each promise by number, with answers worked out by hand. */
public final class PromiseTest {
    private static final int LEAST = Integer.MIN_VALUE;
    private static final int GREATEST = Integer.MAX_VALUE;
    private static final int M = 1000000;

    private static int wrong = 0;

    public static void main(String[] args) {
        promise1NewObject();
        promise2Vertex();
        promise2VertexOrderOfRefusals();
        promise3Segment();
        promise3SegmentTouches();
        promise3SegmentOrderOfRefusals();
        promise4Hole();
        promise5Turn();
        promise6InCircle();
        promise6InCircleFarOut();
        promise7BuildChoosesTheGoodSide();
        promise7BuildOnOneCircle();
        promise7BuildOnOneLine();
        promise7BuildByHoles();
        promise7BuildByOutside();
        promise7BuildAgain();
        promise8Triangles();
        promise9Corner();
        promise10Across();
        promise11Fixed();
        promise12Locate();
        promise13Degree();
        promise14Area();
        promise15Border();
        promise16Vertices();
        promise17Segments();
        promise18Place();
        System.out.println(wrong == 0 ? "all answers are as due" : wrong + " answers are not as due");
        if (wrong != 0) {
            System.exit(1);
        }
    }

    private static void due(String what, long got, long want) {
        if (got != want) {
            wrong++;
            System.out.println(what + " answered " + got + ", due is " + want);
        }
    }

    private static void due(String what, boolean got, boolean want) {
        due(what, got ? 1 : 0, want ? 1 : 0);
    }

    private static ExactMesh withVertices(int... places) {
        ExactMesh mesh = new ExactMesh();
        for (int i = 0; i < places.length; i += 2) {
            due("vertex " + i / 2, mesh.vertex(places[i], places[i + 1]), i / 2);
        }
        return mesh;
    }

    private static void addSegments(ExactMesh mesh, int... ends) {
        for (int i = 0; i < ends.length; i += 2) {
            int number = mesh.segments();
            due("segment " + ends[i] + "-" + ends[i + 1], mesh.segment(ends[i], ends[i + 1]), number);
        }
    }

    /** The corners of all triangles, three by three, in the order of their numbers. */
    private static void dueMesh(String what, ExactMesh mesh, int... corners) {
        due(what + ": triangles()", mesh.triangles(), corners.length / 3);
        for (int i = 0; i < corners.length; i++) {
            due(what + ": corner(" + i / 3 + ", " + i % 3 + ")", mesh.corner(i / 3, i % 3), corners[i]);
        }
    }

    /** A square 0 .. 10 with a square 3 .. 7 inside, both walled in by segments. */
    private static ExactMesh frame() {
        ExactMesh mesh = withVertices(0, 0, 10, 0, 10, 10, 0, 10, 3, 3, 7, 3, 7, 7, 3, 7);
        addSegments(mesh, 0, 1, 1, 2, 2, 3, 3, 0, 4, 5, 5, 6, 6, 7, 7, 4);
        return mesh;
    }

    private static void promise1NewObject() {
        ExactMesh mesh = new ExactMesh();
        due("new: vertices", mesh.vertices(), 0);
        due("new: segments", mesh.segments(), 0);
        due("new: triangles", mesh.triangles(), 0);
        due("new: area", mesh.area(), 0);
        due("new: border", mesh.border(), 0);
        due("new: corner", mesh.corner(0, 0), ExactMesh.NONE);
        due("new: across", mesh.across(0, 0), ExactMesh.NONE);
        due("new: fixed", mesh.fixed(0, 0), false);
        due("new: locate", mesh.locate(0, 0), ExactMesh.NONE);
        due("new: degree", mesh.degree(0), ExactMesh.NONE);
        due("new: place", mesh.place(0, 0), 0);
        due("new: build", mesh.build(true, true), 0);
        due("new: first hole", mesh.hole(0, 0), 1);
        ExactMesh other = new ExactMesh();
        mesh.vertex(1, 1);
        due("another object's vertices", other.vertices(), 0);
        due("another object's holes", other.hole(0, 0), 1);
    }

    private static void promise2Vertex() {
        ExactMesh mesh = withVertices(-M, -M, M, M, -M, M, M, -M, 0, 0);
        due("vertex there already", mesh.vertex(-M, M), 2);
        due("x too great", mesh.vertex(M + 1, 0), -2);
        due("x too small", mesh.vertex(-M - 1, 0), -2);
        due("y too great", mesh.vertex(0, M + 1), -2);
        due("y too small", mesh.vertex(0, -M - 1), -2);
        due("least ints", mesh.vertex(LEAST, LEAST), -2);
        due("greatest ints", mesh.vertex(GREATEST, GREATEST), -2);
        due("vertices after refusals", mesh.vertices(), 5);
        addSegments(mesh, 0, 4);
        due("on a segment", mesh.vertex(-1, -1), -4);
        due("at a segment's end", mesh.vertex(0, 0), 4);
        due("beyond a segment's end", mesh.vertex(1, 1), 5);
        due("beside a segment", mesh.vertex(-1, -2), 6);
        due("vertices then", mesh.vertices(), 7);
    }

    private static void promise2VertexOrderOfRefusals() {
        ExactMesh mesh = withVertices(0, 0, 4, 0);
        addSegments(mesh, 0, 1);
        for (int v = 2; v < 12; v++) {
            due("vertex " + v, mesh.vertex(v, 5), v);
        }
        due("a thirteenth", mesh.vertex(12, 5), -3);
        due("a thirteenth on a segment", mesh.vertex(2, 0), -3);
        due("a thirteenth too far out", mesh.vertex(2, M + 1), -2);
        due("one there when 12 are", mesh.vertex(11, 5), 11);
        due("vertices when 12 are", mesh.vertices(), 12);
    }

    private static void promise3Segment() {
        ExactMesh mesh = withVertices(0, 0, 4, 0, 4, 4, 0, 4);
        due("end below 0", mesh.segment(-1, 0), -2);
        due("other end below 0", mesh.segment(0, -1), -2);
        due("end too great", mesh.segment(4, 0), -2);
        due("other end too great", mesh.segment(0, 4), -2);
        due("extreme ends", mesh.segment(LEAST, GREATEST), -2);
        due("ends the same", mesh.segment(2, 2), -2);
        due("first segment", mesh.segment(0, 2), 0);
        due("there already", mesh.segment(0, 2), -3);
        due("there the other way", mesh.segment(2, 0), -3);
        due("crossing", mesh.segment(1, 3), -5);
        due("crossing the other way", mesh.segment(3, 1), -5);
        due("an end in common", mesh.segment(2, 3), 1);
        due("segments", mesh.segments(), 2);
    }

    private static void promise3SegmentTouches() {
        ExactMesh mesh = withVertices(0, 0, 2, 2, 6, 6, 7, 7, 2, 0, 0, 2, -1, -1);
        due("over a vertex", mesh.segment(0, 2), -4);
        due("over two vertices", mesh.segment(3, 0), -4);
        due("stretch", mesh.segment(1, 2), 0);
        due("over a segment", mesh.segment(0, 3), -4);
        due("on from a segment's end", mesh.segment(2, 3), 1);
        due("on from its other end", mesh.segment(0, 1), 2);
        due("crossing at one's inner point", mesh.segment(4, 5), -5);
        due("apart on the same line", mesh.segment(6, 0), 3);
    }

    private static void promise3SegmentOrderOfRefusals() {
        ExactMesh mesh = withVertices(0, 0, 4, 0, 2, 0, 3, 1, 3, -1);
        addSegments(mesh, 3, 4);
        due("over a vertex and crossing", mesh.segment(0, 1), -4);
        ExactMesh fan = withVertices(0, 0, 1, 9, 2, 9, 3, 9, 4, 9, 5, 9, 6, 9, 7, 9, 8, 9, 9, 9, 10, 9, 11, 9);
        for (int v = 1; v <= 10; v++) {
            due("segment 0-" + v, fan.segment(0, v), v - 1);
        }
        due("an eleventh", fan.segment(0, 11), -3);
        due("an eleventh that is there", fan.segment(1, 0), -3);
        due("an eleventh over a vertex", fan.segment(9, 11), -3);
        due("an eleventh to no vertex", fan.segment(0, 12), -2);
        due("segments when 10 are", fan.segments(), 10);
    }

    private static void promise4Hole() {
        ExactMesh mesh = withVertices(1, 1);
        due("hole too far right", mesh.hole(M + 1, 0), -2);
        due("hole too far left", mesh.hole(-M - 1, 0), -2);
        due("hole too far up", mesh.hole(0, M + 1), -2);
        due("hole too far down", mesh.hole(0, -M - 1), -2);
        due("hole at a vertex", mesh.hole(1, 1), 1);
        due("hole at a hole", mesh.hole(1, 1), 2);
        due("hole in a corner", mesh.hole(M, -M), 3);
        due("fourth hole", mesh.hole(-M, M), -3);
        due("fourth hole too far out", mesh.hole(LEAST, GREATEST), -2);
        due("holes are no vertices", mesh.vertices(), 1);
    }

    private static void promise5Turn() {
        ExactMesh mesh = withVertices(0, 0, 4, 0, 4, 4, 8, 0, M, M, -M, -M, -M, 1 - M, M, M - 1);
        due("left", mesh.turn(0, 1, 2), 1);
        due("right", mesh.turn(1, 0, 2), -1);
        due("ahead", mesh.turn(0, 1, 3), 0);
        due("between", mesh.turn(0, 3, 1), 0);
        due("twice a", mesh.turn(2, 2, 1), 0);
        due("twice b", mesh.turn(1, 2, 2), 0);
        due("a again", mesh.turn(2, 1, 2), 0);
        due("all the same", mesh.turn(3, 3, 3), 0);
        due("just left, far out", mesh.turn(5, 4, 6), 1);
        due("just right, far out", mesh.turn(5, 4, 7), -1);
        due("no a", mesh.turn(-1, 1, 2), 2);
        due("no b", mesh.turn(0, 8, 2), 2);
        due("no c", mesh.turn(0, 1, GREATEST), 2);
        due("none, all the same", mesh.turn(LEAST, LEAST, LEAST), 2);
    }

    private static void promise6InCircle() {
        ExactMesh mesh = withVertices(0, 0, 4, 0, 4, 4, 0, 4, 1, 3, 5, 5, 8, 0);
        int[][] orders = {{0, 1, 2}, {0, 2, 1}, {1, 0, 2}, {1, 2, 0}, {2, 0, 1}, {2, 1, 0}};
        for (int[] o : orders) {
            due("on", mesh.inCircle(o[0], o[1], o[2], 3), 0);
            due("inside", mesh.inCircle(o[0], o[1], o[2], 4), 1);
            due("outside", mesh.inCircle(o[0], o[1], o[2], 5), -1);
            due("one of them", mesh.inCircle(o[0], o[1], o[2], o[1]), 0);
        }
        due("on one line", mesh.inCircle(0, 1, 6, 2), 2);
        due("a twice", mesh.inCircle(0, 0, 1, 2), 2);
        due("a again", mesh.inCircle(0, 1, 0, 2), 2);
        due("no a", mesh.inCircle(-1, 1, 2, 3), 2);
        due("no b", mesh.inCircle(0, 7, 2, 3), 2);
        due("no c", mesh.inCircle(0, 1, LEAST, 3), 2);
        due("no d", mesh.inCircle(0, 1, 2, 7), 2);
        due("d below 0", mesh.inCircle(0, 1, 2, -1), 2);
    }

    private static void promise6InCircleFarOut() {
        ExactMesh mesh = withVertices(M, M, -M, M, -M, -M, M, -M, M - 1, -M, M - 1, 1 - M);
        due("fourth corner", mesh.inCircle(0, 1, 2, 3), 0);
        due("beside it", mesh.inCircle(0, 1, 2, 4), 1);
        due("before it", mesh.inCircle(2, 1, 0, 5), 1);
        due("corner outside", mesh.inCircle(0, 1, 4, 3), -1);
        // At x = 1 this circle of radius 5 * 10^11 passes only 10^-12 below y = 1.
        ExactMesh flat = withVertices(-M, 0, M, 0, 0, 1, 1, 1, -1, 1, 1, 0);
        due("above a flat circle", flat.inCircle(0, 1, 2, 3), -1);
        due("above it the other way", flat.inCircle(1, 0, 2, 4), -1);
        due("just inside it", flat.inCircle(0, 1, 2, 5), 1);
    }

    private static void promise7BuildChoosesTheGoodSide() {
        ExactMesh kite = withVertices(0, 0, 10, 0, 5, 1, 5, -1);
        due("kite", kite.build(false, false), 2);
        dueMesh("kite", kite, 0, 3, 2, 1, 2, 3);
        addSegments(kite, 0, 1);
        due("kite with a segment", kite.build(false, false), 2);
        dueMesh("kite with a segment", kite, 0, 1, 2, 0, 3, 1);
        ExactMesh bent = withVertices(0, 0, 10, 0, 10, 10, 9, 1);
        due("a vertex inside", bent.build(false, false), 3);
        dueMesh("a vertex inside", bent, 0, 1, 3, 0, 3, 2, 1, 2, 3);
    }

    private static void promise7BuildOnOneCircle() {
        ExactMesh square = withVertices(4, 0, 4, 4, 0, 4, 0, 0);
        square.build(false, false);
        dueMesh("least number at the right", square, 0, 1, 2, 0, 2, 3);
        ExactMesh crossed = withVertices(0, 0, 4, 4, 4, 0, 0, 4);
        crossed.build(false, false);
        dueMesh("least number at the left", crossed, 0, 1, 3, 0, 2, 1);
        ExactMesh six = withVertices(7, 1, 5, 5, 1, 7, -1, 7, -5, 5, -7, 1);
        six.build(false, false);
        dueMesh("six on one circle", six, 0, 1, 2, 0, 2, 3, 0, 3, 4, 0, 4, 5);
        addSegments(six, 1, 5);
        six.build(false, false);
        dueMesh("six, cut by a segment", six, 0, 1, 5, 1, 2, 3, 1, 3, 4, 1, 4, 5);
    }

    private static void promise7BuildOnOneLine() {
        ExactMesh line = withVertices(0, 0);
        due("one vertex", line.build(false, false), 0);
        line.vertex(2, 1);
        due("two vertices", line.build(true, false), 0);
        line.vertex(-2, -1);
        line.vertex(4, 2);
        addSegments(line, 0, 2);
        due("on one line", line.build(false, true), 0);
        line.vertex(0, 5);
        due("and one beside it", line.build(false, false), 3);
        dueMesh("and one beside it", line, 0, 1, 4, 0, 4, 2, 1, 3, 4);
    }

    private static void promise7BuildByHoles() {
        ExactMesh mesh = frame();
        due("frame", mesh.build(false, false), 10);
        due("frame's area", mesh.area(), 200);
        due("no holes there", mesh.build(true, false), 10);
        due("hole inside", mesh.hole(4, 5), 1);
        due("holes do not count", mesh.build(false, false), 10);
        due("holes count", mesh.build(true, false), 8);
        due("area around the hole", mesh.area(), 168);
        due("border around the hole", mesh.border(), 8);
        due("hole on a segment", mesh.hole(5, 3), 2);
        due("both sides are taken", mesh.build(true, false), 0);
        ExactMesh corner = withVertices(0, 0, 4, 0, 4, 4, 0, 4, 8, 0, 8, 4);
        addSegments(corner, 1, 2, 0, 2);
        due("strip", corner.build(false, false), 4);
        due("hole on a corner", corner.hole(0, 0), 1);
        due("all triangles at that corner", corner.build(true, false), 2);
        dueMesh("the rest", corner, 1, 4, 5, 1, 5, 2);
        ExactMesh beside = withVertices(0, 0, 4, 0, 0, 4);
        beside.hole(3, 3);
        due("hole beside the mesh", beside.build(true, false), 1);
        due("hole on the hull", beside.hole(2, 2), 2);
        due("takes the triangle", beside.build(true, false), 0);
    }

    private static void promise7BuildByOutside() {
        ExactMesh mesh = frame();
        due("walled in", mesh.build(false, true), 10);
        mesh.hole(5, 5);
        due("walled in, with a hole", mesh.build(true, true), 8);
        ExactMesh open = withVertices(0, 0, 10, 0, 10, 10, 0, 10, 3, 3, 7, 3, 7, 7, 3, 7);
        addSegments(open, 4, 5, 5, 6, 6, 7, 7, 4);
        due("inner wall alone", open.build(false, true), 2);
        dueMesh("inner wall alone", open, 4, 5, 6, 4, 6, 7);
        due("nothing counts", open.build(false, false), 10);
        ExactMesh leak = withVertices(0, 0, 4, 0, 4, 4, 0, 4);
        addSegments(leak, 0, 1, 1, 2, 2, 3);
        due("a gap in the wall", leak.build(false, true), 0);
        addSegments(leak, 3, 0);
        due("the gap closed", leak.build(false, true), 2);
    }

    private static void promise7BuildAgain() {
        ExactMesh mesh = withVertices(0, 0, 4, 0, 4, 4);
        due("one triangle", mesh.build(false, false), 1);
        mesh.vertex(0, 4);
        mesh.segment(1, 3);
        mesh.hole(1, 1);
        dueMesh("until built again", mesh, 0, 1, 2);
        due("fixed until then", mesh.fixed(0, 0), false);
        due("locate until then", mesh.locate(1, 3), ExactMesh.NONE);
        due("area until then", mesh.area(), 16);
        due("border until then", mesh.border(), 3);
        due("across until then", mesh.across(0, 2), ExactMesh.NONE);
        due("built again", mesh.build(true, false), 1);
        dueMesh("built again", mesh, 1, 2, 3);
    }

    private static void promise8Triangles() {
        ExactMesh mesh = frame();
        due("before a build", mesh.triangles(), 0);
        mesh.build(false, false);
        due("after a build", mesh.triangles(), 10);
        mesh.hole(5, 5);
        due("after a hole", mesh.triangles(), 10);
        mesh.build(true, true);
        due("after carving", mesh.triangles(), 8);
        ExactMesh most = withVertices(0, 0, 100, 0, 50, 90, 50, 20, 40, 30, 60, 30, 45, 40, 55, 41, 48, 25, 53, 27, 50, 33, 49, 60);
        due("as many as 12 vertices can have", most.build(false, false), 19);
        due("as many then", most.triangles(), 19);
        most.hole(-1, -1);
        due("none of them taken out", most.build(true, false), 19);
        most.hole(50, 30);
        due("all of them taken out", most.build(true, false), 0);
        due("all of them open to the outside", most.build(false, true), 0);
        addSegments(most, 0, 1, 1, 2, 2, 0);
        due("all of them walled in", most.build(false, true), 19);
    }

    private static void promise9Corner() {
        ExactMesh mesh = withVertices(5, 5, 0, 0, 10, 0);
        due("no triangle yet", mesh.corner(0, 0), ExactMesh.NONE);
        mesh.build(false, false);
        dueMesh("counterclockwise from the least", mesh, 0, 1, 2);
        due("k too great", mesh.corner(0, 3), ExactMesh.NONE);
        due("k below 0", mesh.corner(0, -1), ExactMesh.NONE);
        due("t too great", mesh.corner(1, 0), ExactMesh.NONE);
        due("t below 0", mesh.corner(-1, 2), ExactMesh.NONE);
        due("extreme", mesh.corner(GREATEST, LEAST), ExactMesh.NONE);
        ExactMesh turned = withVertices(10, 0, 0, 0, 5, 5);
        turned.build(false, false);
        dueMesh("the other way around", turned, 0, 2, 1);
    }

    private static void promise10Across() {
        ExactMesh mesh = withVertices(0, 0, 4, 0, 4, 4, 0, 4, 2, 9);
        addSegments(mesh, 0, 2);
        due("built", mesh.build(false, false), 3);
        dueMesh("house", mesh, 0, 1, 2, 0, 2, 3, 2, 4, 3);
        int[][] want = {{-1, -1, 1}, {0, 2, -1}, {-1, -1, 1}};
        for (int t = 0; t < 3; t++) {
            for (int k = 0; k < 3; k++) {
                due("across(" + t + ", " + k + ")", mesh.across(t, k), want[t][k]);
            }
        }
        due("k too great", mesh.across(1, 3), ExactMesh.NONE);
        due("k below 0", mesh.across(1, -1), ExactMesh.NONE);
        due("t too great", mesh.across(3, 0), ExactMesh.NONE);
        due("t below 0", mesh.across(-1, 2), ExactMesh.NONE);
        mesh.hole(3, 1);
        due("carved", mesh.build(true, false), 2);
        due("where one was taken out", mesh.across(0, 0), ExactMesh.NONE);
        due("numbered anew", mesh.across(0, 1), 1);
        due("and back", mesh.across(1, 2), 0);
    }

    private static void promise11Fixed() {
        ExactMesh mesh = withVertices(0, 0, 4, 0, 4, 4, 0, 4);
        addSegments(mesh, 2, 0, 0, 1);
        due("before a build", mesh.fixed(0, 0), false);
        mesh.build(false, false);
        boolean[][] want = {{true, false, true}, {true, false, false}};
        for (int t = 0; t < 2; t++) {
            for (int k = 0; k < 3; k++) {
                due("fixed(" + t + ", " + k + ")", mesh.fixed(t, k), want[t][k]);
            }
        }
        addSegments(mesh, 1, 2);
        due("made since", mesh.fixed(0, 1), false);
        due("k too great", mesh.fixed(0, 3), false);
        due("k below 0", mesh.fixed(0, -1), false);
        due("t too great", mesh.fixed(2, 0), false);
        due("t below 0", mesh.fixed(-1, 0), false);
        mesh.build(false, false);
        due("built again", mesh.fixed(0, 1), true);
    }

    private static void promise12Locate() {
        ExactMesh mesh = withVertices(0, 0, 4, 0, 4, 4, 0, 4);
        due("before a build", mesh.locate(1, 1), ExactMesh.NONE);
        mesh.build(false, false);
        due("inside the first", mesh.locate(3, 1), 0);
        due("inside the second", mesh.locate(1, 3), 1);
        due("on the side between", mesh.locate(2, 2), 0);
        due("on the hull", mesh.locate(2, 4), 1);
        due("on a corner of both", mesh.locate(4, 4), 0);
        due("on a corner of the second", mesh.locate(0, 4), 1);
        due("just outside", mesh.locate(5, 2), ExactMesh.NONE);
        due("on from a side", mesh.locate(5, 0), ExactMesh.NONE);
        int[] far = {LEAST, GREATEST, 0};
        for (int x : far) {
            for (int y : far) {
                due("locate(" + x + ", " + y + ")", mesh.locate(x, y), x == 0 && y == 0 ? 0 : ExactMesh.NONE);
            }
        }
        mesh.hole(3, 1);
        addSegments(mesh, 0, 2);
        mesh.build(true, false);
        due("in what was taken out", mesh.locate(3, 1), ExactMesh.NONE);
        due("on the side of what is left", mesh.locate(2, 2), 0);
        ExactMesh wide = withVertices(-M, -M, M, -M, M, M, -M, M);
        wide.build(false, false);
        due("far out beside wide triangles", wide.locate(GREATEST, LEAST), ExactMesh.NONE);
        due("far out on the diagonal", wide.locate(GREATEST, GREATEST), ExactMesh.NONE);
        due("on the wide diagonal", wide.locate(999999, 999999), 0);
        due("above the wide diagonal", wide.locate(999998, 999999), 1);
    }

    private static void promise13Degree() {
        ExactMesh mesh = withVertices(0, 0, 4, 0, 4, 4, 0, 4);
        due("before a build", mesh.degree(0), 0);
        mesh.build(false, false);
        due("degree(0)", mesh.degree(0), 2);
        due("degree(1)", mesh.degree(1), 1);
        due("degree(2)", mesh.degree(2), 2);
        due("degree(3)", mesh.degree(3), 1);
        due("no vertex", mesh.degree(4), ExactMesh.NONE);
        due("below 0", mesh.degree(-1), ExactMesh.NONE);
        due("least int", mesh.degree(LEAST), ExactMesh.NONE);
        mesh.vertex(1, 2);
        due("made since", mesh.degree(4), 0);
        due("still no vertex", mesh.degree(5), ExactMesh.NONE);
        mesh.build(false, true);
        due("all carved away", mesh.degree(0), 0);
    }

    private static void promise14Area() {
        ExactMesh mesh = withVertices(-M, -M, M, -M, M, M, -M, M);
        due("before a build", mesh.area(), 0);
        mesh.build(false, false);
        due("the whole square", mesh.area(), 8000000000000L);
        addSegments(mesh, 0, 2);
        mesh.hole(0, 1);
        mesh.build(true, false);
        due("half of it", mesh.area(), 4000000000000L);
        ExactMesh odd = withVertices(0, 0, 1, 0, 0, 1);
        odd.build(false, false);
        due("an odd one", odd.area(), 1);
    }

    private static void promise15Border() {
        ExactMesh mesh = frame();
        due("before a build", mesh.border(), 0);
        mesh.build(false, false);
        due("hull", mesh.border(), 4);
        mesh.hole(5, 5);
        mesh.build(true, false);
        due("hull and hole", mesh.border(), 8);
        ExactMesh line = withVertices(0, 0, 2, 0, 4, 0, 2, 2);
        line.build(false, false);
        due("a vertex on the hull", line.border(), 4);
    }

    private static void promise16Vertices() {
        ExactMesh mesh = withVertices(0, 0, 1, 0, 2, 0);
        due("three", mesh.vertices(), 3);
        mesh.vertex(1, 0);
        mesh.vertex(M + 1, 0);
        mesh.hole(9, 9);
        mesh.build(true, true);
        due("still three", mesh.vertices(), 3);
    }

    private static void promise17Segments() {
        ExactMesh mesh = withVertices(0, 0, 1, 0, 2, 0);
        due("none", mesh.segments(), 0);
        addSegments(mesh, 0, 1, 1, 2);
        due("two", mesh.segments(), 2);
        mesh.segment(0, 2);
        mesh.segment(1, 0);
        mesh.build(true, true);
        due("still two", mesh.segments(), 2);
    }

    private static void promise18Place() {
        ExactMesh mesh = withVertices(7, -8, -M, M);
        due("x", mesh.place(0, 0), 7);
        due("y", mesh.place(0, 1), -8);
        due("x of the second", mesh.place(1, 0), -M);
        due("y of the second", mesh.place(1, 1), M);
        due("k too great", mesh.place(0, 2), 0);
        due("k below 0", mesh.place(0, -1), 0);
        due("no vertex", mesh.place(2, 0), 0);
        due("below 0", mesh.place(-1, 1), 0);
        due("extreme", mesh.place(GREATEST, LEAST), 0);
    }
}
