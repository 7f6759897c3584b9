/**
 * The section Terms of the document: one test for each sentence that names an edge of the full mesh, of
 * carving, of numbering and of what a mesh keeps until it is built again. The sentence is printed with
 * every answer that is not due. (How many vertices, segments and holes there may be: EdgeTest. What a
 * refused call changes: RefusalTest.)
 */
public final class TermsTest {
    private static final int NONE = ExactMesh.NONE;
    private static final int M = 1000000;
    private static final boolean[] BOTH = {false, true};

    /** The twelve whole points on the circle of radius 5, counterclockwise. */
    private static final int[] ROUND = {5, 0, 4, 3, 3, 4, 0, 5, -3, 4, -4, 3, -5, 0, -4, -3, -3, -4, 0, -5, 3, -4, 4, -3};

    private static int wrong = 0;
    private static int answers = 0;
    private static String sentence = "";

    public static void main(String[] args) {
        testFullMesh();
        testGoodSides();
        testNoTriangles();
        testHoles();
        testOutside();
        testSpreading();
        testNumbering();
        testUntilBuiltAgain();
        System.out.println(wrong == 0 ? "all answers are as due" : wrong + " answers are not as due");
        if (wrong != 0) {
            System.exit(1);
        }
    }

    private static void testFullMesh() {
        test("no two triangles overlap; together they fill the convex hull", TermsTest::hullIsFilledOnce);
        test("each vertex is a corner of some triangle", TermsTest::eachVertexIsCorner);
        test("no vertex lies on a side except the two ends of that side", TermsTest::noVertexOnSide);
        test("each segment is a side of some triangle", TermsTest::eachSegmentIsSide);
        test("there is exactly one full mesh", TermsTest::orderOfSegmentsIsFree);
    }

    private static void testGoodSides() {
        test("good: d lies outside the circle", TermsTest::sideWithOutsideIsGood);
        test("good: outside by a hair", TermsTest::sideByAHair);
        test("good: on that circle, and a or b has the least number", TermsTest::sideOnCircle);
        test("good: the least number of the four, not of all", TermsTest::leastOfTheFour);
        test("good: twelve on one circle", TermsTest::twelveOnCircle);
        test("good: each side that is no segment", TermsTest::segmentNeedNotBeGood);
        test("good: on one circle, cut by a segment", TermsTest::circleCutBySegment);
    }

    private static void testNoTriangles() {
        test("fewer than three: no triangles", TermsTest::fewerThanThree);
        test("all vertices on one line: no triangles", TermsTest::allOnOneLine);
        test("unless all vertices lie on one line: one beside it", TermsTest::oneBesideTheLine);
    }

    private static void testHoles() {
        test("if holes count", TermsTest::holesCountOnlyIfAsked);
        test("a hole lies inside", TermsTest::holeInside);
        test("a hole lies on a side", TermsTest::holeOnSide);
        test("a hole lies on a side of the hull", TermsTest::holeOnHull);
        test("a hole lies on a corner", TermsTest::holeOnCorner);
        test("a hole lies in no triangle", TermsTest::holeInNoTriangle);
        test("a hole by a hair", TermsTest::holeByAHair);
        test("every triangle in which a hole lies: three holes", TermsTest::threeHoles);
    }

    private static void testOutside() {
        test("if the outside counts", TermsTest::outsideCountsOnlyIfAsked);
        test("a side that is no segment and has no triangle on its other side", TermsTest::oneOpenSide);
        test("no triangle of the full mesh: not one that holes take out", TermsTest::holeDoesNotOpenWalls);
        test("a corner on the hull does not open a triangle", TermsTest::cornerOnHullIsNotOpen);
        test("carving leaves nothing", TermsTest::carvingLeavesNothing);
    }

    private static void testSpreading() {
        test("again and again", TermsTest::spreadsThroughAll);
        test("which is no segment: stops there", TermsTest::stopsAtSegments);
        test("which is no segment: goes around its end", TermsTest::goesAroundSegments);
        test("a side in common: not a corner", TermsTest::doesNotSpreadOverCorners);
    }

    private static void testNumbering() {
        test("counterclockwise from the one with the least number on", TermsTest::cornersInOrder);
        test("in the order of their corner 0, then of their corner 1", TermsTest::trianglesInOrder);
        test("the triangles of the mesh that is left are numbered", TermsTest::numberedAfterCarving);
        test("side k runs from its corner k to its corner k + 1", TermsTest::sidesInOrder);
    }

    private static void testUntilBuiltAgain() {
        test("new vertices do not change the mesh", TermsTest::newVerticesDoNotCount);
        test("new segments do not change the mesh", TermsTest::newSegmentsDoNotCount);
        test("new holes do not change the mesh", TermsTest::newHolesDoNotCount);
        test("the mesh is what the latest build() has left", TermsTest::latestBuildCounts);
        test("NONE = -1", () -> due("NONE", ExactMesh.NONE, -1));
    }

    private static void test(String words, Runnable body) {
        sentence = words;
        int before = answers;
        body.run();
        if (answers == before) {
            due("this test has looked at nothing", 0, 1);
        }
    }

    private static void due(String call, long got, long want) {
        answers++;
        if (got != want) {
            wrong++;
            System.out.println("terms, " + sentence + ": " + call + " answered " + got + ", due is " + want);
        }
    }

    private static void due(String call, boolean got, boolean want) {
        due(call, got ? 1 : 0, want ? 1 : 0);
    }

    private static void dueBuild(ExactMesh mesh, boolean holes, boolean outside, int want) {
        due("build(" + holes + ", " + outside + ")", mesh.build(holes, outside), want);
    }

    private static void dueLocate(ExactMesh mesh, int x, int y, int want) {
        due("locate(" + x + ", " + y + ")", mesh.locate(x, y), want);
    }

    /** The corners of all triangles, three by three, in the order of their numbers. */
    private static void dueMesh(ExactMesh mesh, int... corners) {
        due("triangles()", mesh.triangles(), corners.length / 3);
        for (int i = 0; i < corners.length; i++) {
            due("corner(" + i / 3 + ", " + i % 3 + ")", mesh.corner(i / 3, i % 3), corners[i]);
        }
    }

    private static ExactMesh withVertices(int... places) {
        ExactMesh mesh = new ExactMesh();
        for (int i = 0; i < places.length; i += 2) {
            due("vertex(" + places[i] + ", " + places[i + 1] + ")", mesh.vertex(places[i], places[i + 1]), i / 2);
        }
        return mesh;
    }

    private static void addSegments(ExactMesh mesh, int... ends) {
        for (int i = 0; i < ends.length; i += 2) {
            int next = mesh.segments();
            due("segment(" + ends[i] + ", " + ends[i + 1] + ")", mesh.segment(ends[i], ends[i + 1]), next);
        }
    }

    private static void addHole(ExactMesh mesh, int x, int y, int want) {
        due("hole(" + x + ", " + y + ")", mesh.hole(x, y), want);
    }

    private static ExactMesh built(int... places) {
        ExactMesh mesh = withVertices(places);
        mesh.build(false, false);
        return mesh;
    }

    private static ExactMesh round(int scale) {
        int[] places = new int[24];
        for (int i = 0; i < 24; i++) {
            places[i] = ROUND[i] * scale;
        }
        return withVertices(places);
    }

    /** Vertices 0 .. 5 at (4i, 0) and 6 .. 11 above them: five squares, halved from i to i + 7. */
    private static ExactMesh strip() {
        return withVertices(0, 0, 4, 0, 8, 0, 12, 0, 16, 0, 20, 0, 0, 4, 4, 4, 8, 4, 12, 4, 16, 4, 20, 4);
    }

    /** Twelve vertices within a triangle: 19 triangles. */
    private static ExactMesh crowd() {
        return withVertices(0, 0, 100, 0, 50, 90, 50, 20, 40, 30, 60, 30, 45, 40, 55, 41, 48, 25, 53, 27, 50, 33, 49, 60);
    }

    /** Two walled squares that have only vertex 2 in common. */
    private static ExactMesh twoSquares() {
        ExactMesh mesh = withVertices(0, 0, 4, 0, 4, 4, 0, 4, 8, 4, 8, 8, 4, 8);
        addSegments(mesh, 0, 1, 1, 2, 2, 3, 3, 0, 2, 4, 4, 5, 5, 6, 6, 2);
        return mesh;
    }

    private static ExactMesh square() {
        return withVertices(0, 0, 4, 0, 4, 4, 0, 4);
    }

    private static long doubleArea(ExactMesh mesh, int t) {
        int a = mesh.corner(t, 0);
        int b = mesh.corner(t, 1);
        int c = mesh.corner(t, 2);
        long width = mesh.place(b, 0) - mesh.place(a, 0);
        long height = mesh.place(b, 1) - mesh.place(a, 1);
        return width * (mesh.place(c, 1) - mesh.place(a, 1)) - height * (mesh.place(c, 0) - mesh.place(a, 0));
    }

    private static boolean isSide(ExactMesh mesh, int a, int b) {
        for (int t = 0; t < mesh.triangles(); t++) {
            for (int k = 0; k < 3; k++) {
                int from = mesh.corner(t, k);
                int to = mesh.corner(t, (k + 1) % 3);
                if (from == a && to == b || from == b && to == a) {
                    return true;
                }
            }
        }
        return false;
    }

    private static void hullIsFilledOnce() {
        // A grid of 3 by 4: its 12 triangles have the least area there is, and fill 2 by 3.
        ExactMesh grid = built(0, 0, 1, 0, 2, 0, 0, 1, 1, 1, 2, 1, 0, 2, 1, 2, 2, 2, 0, 3, 1, 3, 2, 3);
        due("triangles()", grid.triangles(), 12);
        due("area()", grid.area(), 12);
        for (int t = 0; t < 12; t++) {
            due("twice the area of triangle " + t, doubleArea(grid, t), 1);
        }
        ExactMesh most = crowd();
        dueBuild(most, false, false, 19);
        due("area()", most.area(), 9000);
        for (int t = 0; t < 19; t++) {
            due("triangle " + t + " counterclockwise", doubleArea(most, t) > 0, true);
        }
        due("border()", most.border(), 3);
    }

    private static void eachVertexIsCorner() {
        // Alone inside a triangle, whatever its number.
        dueMesh(built(2, 2, 0, 0, 8, 0, 0, 8), 0, 1, 2, 0, 2, 3, 0, 3, 1);
        dueMesh(built(0, 0, 2, 2, 8, 0, 0, 8), 0, 1, 3, 0, 2, 1, 1, 2, 3);
        dueMesh(built(0, 0, 8, 0, 0, 8, 2, 2), 0, 1, 3, 0, 3, 2, 1, 2, 3);
        // In the middle of the hull's sides, inside, beside another, and in the middle of a diagonal.
        ExactMesh mesh = built(0, 0, 8, 0, 8, 8, 0, 8, 4, 0, 8, 4, 4, 8, 0, 4, 4, 4, 3, 4, 1, 1, 7, 1);
        due("triangles()", mesh.triangles(), 14);
        due("area()", mesh.area(), 128);
        for (int v = 0; v < 12; v++) {
            due("degree(" + v + ") above 0", mesh.degree(v) > 0, true);
        }
        due("border()", mesh.border(), 8);
    }

    private static void noVertexOnSide() {
        // The vertex comes before and after the side it lies on, on the hull and inside.
        dueMesh(built(0, 0, 4, 0, 8, 0, 4, 8), 0, 1, 3, 1, 2, 3);
        dueMesh(built(0, 0, 8, 0, 4, 8, 4, 0), 0, 3, 2, 1, 2, 3);
        dueMesh(built(0, 0, 8, 0, 8, 8, 0, 8, 4, 4), 0, 1, 4, 0, 4, 3, 1, 2, 4, 2, 3, 4);
        dueMesh(built(4, 4, 8, 0, 8, 8, 0, 8, 0, 0), 0, 1, 2, 0, 2, 3, 0, 3, 4, 0, 4, 1);
        // The middle of the square's diagonal, far out, and one just beside that diagonal.
        dueMesh(built(-M, -M, M, -M, M, M, 0, 0), 0, 1, 3, 1, 2, 3);
        dueMesh(built(-M, -M, M, -M, M, M, 0, -1), 0, 1, 3, 0, 3, 2, 1, 2, 3);
        dueMesh(built(-M, -M, M, -M, M, M, -1, 0), 0, 1, 3, 1, 2, 3);
    }

    private static void eachSegmentIsSide() {
        ExactMesh round = round(200000);
        addSegments(round, 6, 1, 1, 5, 5, 2, 2, 4, 11, 7, 7, 10, 10, 8, 6, 0, 0, 7);
        dueBuild(round, false, false, 10);
        int[] ends = {6, 1, 1, 5, 5, 2, 2, 4, 11, 7, 7, 10, 10, 8, 6, 0, 0, 7};
        for (int i = 0; i < ends.length; i += 2) {
            due("a side " + ends[i] + "-" + ends[i + 1], isSide(round, ends[i], ends[i + 1]), true);
        }
        // Long segments past vertices that would each take a better side.
        ExactMesh slit = withVertices(0, 0, 20, 0, 10, 1, 10, -1, 5, 2, 15, 2, 5, -2, 15, -2, 0, 30, 20, 30);
        addSegments(slit, 0, 1, 8, 9, 4, 5);
        slit.build(false, false);
        due("a side 0-1", isSide(slit, 0, 1), true);
        due("a side 8-9", isSide(slit, 8, 9), true);
        due("a side 4-5", isSide(slit, 4, 5), true);
    }

    private static void orderOfSegmentsIsFree() {
        ExactMesh one = round(1);
        ExactMesh other = round(1);
        addSegments(one, 1, 5, 6, 11, 7, 10, 2, 4);
        addSegments(other, 4, 2, 10, 7, 11, 6, 5, 1);
        // What was built before does not tell either.
        other.build(true, true);
        dueBuild(one, false, false, 10);
        dueBuild(other, false, false, 10);
        dueSameCorners(one, other);
        // Nor a segment where a side is anyway.
        addSegments(other, 0, 1, 5, 6, 0, 5);
        dueBuild(other, false, false, 10);
        dueSameCorners(one, other);
    }

    private static void dueSameCorners(ExactMesh one, ExactMesh other) {
        for (int t = 0; t < one.triangles(); t++) {
            for (int k = 0; k < 3; k++) {
                due("corner(" + t + ", " + k + ")", other.corner(t, k), one.corner(t, k));
            }
        }
    }

    private static void sideWithOutsideIsGood() {
        dueMesh(built(0, 0, 4, 0, 4, 4, -1, 5), 0, 1, 2, 0, 2, 3);
        dueMesh(built(0, 0, 4, 0, 4, 4, 1, 3), 0, 1, 3, 1, 2, 3);
        dueMesh(built(4, 0, 4, 4, -1, 5, 0, 0), 0, 1, 3, 1, 2, 3);
        dueMesh(built(4, 0, 4, 4, 1, 3, 0, 0), 0, 1, 2, 0, 2, 3);
    }

    private static void sideByAHair() {
        // On the circle vertex 0 would have the diagonal; a unit further out or in decides otherwise.
        dueMesh(built(M - 1, 1 - M, M - 1, M - 1, 1 - M, M, 1 - M, 1 - M), 0, 1, 3, 1, 2, 3);
        dueMesh(built(M - 1, 1 - M, M - 1, M - 1, -M, M - 1, 1 - M, 1 - M), 0, 1, 3, 1, 2, 3);
        dueMesh(built(-M, -M, M, -M, M, M, 1 - M, M), 0, 1, 3, 1, 2, 3);
        dueMesh(built(-M, -M, M, -M, M, M, -M, M - 1), 0, 1, 3, 1, 2, 3);
        // The circle through (-M, 0), (0, 1) and (M, 0) passes (1, 1) and (-1, 1) at 10^-12.
        dueMesh(built(-M, 0, M, 0, 1, 1, 0, 1), 0, 1, 3, 1, 2, 3);
        dueMesh(built(M, 0, 0, 1, -1, 1, -M, 0), 0, 1, 3, 1, 2, 3);
        dueMesh(built(M, 0, 1, 1, -1, 1, -M, 0), 0, 1, 2, 0, 2, 3);
        dueMesh(built(M, 0, 0, M, -M, 0, 599999, -800000), 0, 1, 3, 1, 2, 3);
        dueMesh(built(M, 0, 0, M, -M, 0, 600000, -800000), 0, 1, 2, 0, 2, 3);
        dueMesh(built(M, 0, 0, M, -M, 0, 600001, -800000), 0, 1, 2, 0, 2, 3);
    }

    private static void sideOnCircle() {
        int[][] corners = {{0, 0}, {4, 0}, {4, 4}, {0, 4}};
        int[] scales = {1, 250000};
        for (int code = 0; code < 256; code++) {
            int[] p = {code & 3, code >> 2 & 3, code >> 4 & 3, code >> 6 & 3};
            boolean all = (1 << p[0] | 1 << p[1] | 1 << p[2] | 1 << p[3]) == 15;
            for (int s = 0; all && s < 2; s++) {
                ExactMesh mesh = new ExactMesh();
                for (int v = 0; v < 4; v++) {
                    mesh.vertex(corners[p[v]][0] * scales[s], corners[p[v]][1] * scales[s]);
                }
                dueBuild(mesh, false, false, 2);
                for (int v = 0; v < 4; v++) {
                    boolean onDiagonal = (p[v] + p[0]) % 2 == 0;
                    due("with vertex 0 at corner " + p[0] + ", degree(" + v + ")", mesh.degree(v), onDiagonal ? 2 : 1);
                }
            }
        }
    }

    private static void leastOfTheFour() {
        dueMesh(built(10, 2, 0, 0, 4, 0, 4, 4, 0, 4), 0, 3, 2, 1, 2, 3, 1, 3, 4);
        dueMesh(built(10, 2, 4, 0, 4, 4, 0, 4, 0, 0), 0, 2, 1, 1, 2, 3, 1, 3, 4);
        dueMesh(built(10, 2, 4, 4, 0, 4, 0, 0, 4, 0), 0, 1, 4, 1, 2, 3, 1, 3, 4);
    }

    private static void twelveOnCircle() {
        int[] scales = {1, 200000};
        for (int scale : scales) {
            ExactMesh mesh = round(scale);
            dueBuild(mesh, false, false, 10);
            for (int t = 0; t < 10; t++) {
                due("corner(" + t + ", 0)", mesh.corner(t, 0), 0);
                due("corner(" + t + ", 1)", mesh.corner(t, 1), t + 1);
                due("corner(" + t + ", 2)", mesh.corner(t, 2), t + 2);
            }
        }
        // Made in leaps of 5 around the circle, they fan out from the first nevertheless.
        ExactMesh leaps = new ExactMesh();
        for (int i = 0; i < 12; i++) {
            int at = 5 * i % 12 * 2;
            due("vertex", leaps.vertex(ROUND[at], ROUND[at + 1]), i);
        }
        dueBuild(leaps, false, false, 10);
        due("degree(0)", leaps.degree(0), 10);
    }

    private static void segmentNeedNotBeGood() {
        ExactMesh kite = built(0, 0, 10, 0, 5, 1, 5, -1);
        dueMesh(kite, 0, 3, 2, 1, 2, 3);
        addSegments(kite, 1, 0);
        kite.build(false, false);
        dueMesh(kite, 0, 1, 2, 0, 3, 1);
        ExactMesh square = built(-M, -M, M, -M, M, M, -M, M);
        dueMesh(square, 0, 1, 2, 0, 2, 3);
        addSegments(square, 3, 1);
        square.build(false, false);
        dueMesh(square, 0, 1, 3, 1, 2, 3);
    }

    private static void circleCutBySegment() {
        ExactMesh mesh = round(200000);
        addSegments(mesh, 1, 11, 2, 10);
        dueBuild(mesh, false, false, 10);
        // Behind each segment its end with the least number fans out.
        dueMesh(mesh, 0, 1, 11, 1, 2, 10, 1, 10, 11, 2, 3, 4, 2, 4, 5, 2, 5, 6, 2, 6, 7, 2, 7, 8, 2, 8, 9, 2, 9, 10);
    }

    private static void fewerThanThree() {
        for (boolean holes : BOTH) {
            for (boolean outside : BOTH) {
                ExactMesh mesh = new ExactMesh();
                dueEmpty(mesh, holes, outside);
                mesh.vertex(0, 0);
                dueEmpty(mesh, holes, outside);
                mesh.vertex(-M, M);
                dueEmpty(mesh, holes, outside);
                mesh.segment(1, 0);
                mesh.hole(0, 0);
                dueEmpty(mesh, holes, outside);
            }
        }
    }

    private static void dueEmpty(ExactMesh mesh, boolean holes, boolean outside) {
        dueBuild(mesh, holes, outside, 0);
        due("triangles()", mesh.triangles(), 0);
        due("border()", mesh.border(), 0);
        due("area()", mesh.area(), 0);
        due("corner(0, 0)", mesh.corner(0, 0), NONE);
        dueLocate(mesh, 0, 0, NONE);
        for (int v = 0; v < mesh.vertices(); v++) {
            due("degree(" + v + ")", mesh.degree(v), 0);
        }
    }

    private static void allOnOneLine() {
        int[][] steps = {{1, 0}, {0, 1}, {90909, 90909}, {-90909, 90908}, {3, -2}};
        for (int[] step : steps) {
            ExactMesh mesh = new ExactMesh();
            for (int v = 0; v < 12; v++) {
                // Not in the order in which they lie on the line.
                int at = 5 * v % 12;
                due("vertex", mesh.vertex(at * step[0], at * step[1]), v);
                dueEmpty(mesh, v % 2 == 0, v % 3 == 0);
            }
            // Every fifth is a neighbour.
            addSegments(mesh, 0, 5, 5, 10, 10, 3, 3, 8, 8, 1, 1, 6, 6, 11, 11, 4, 4, 9, 9, 2);
            mesh.hole(0, 0);
            dueEmpty(mesh, true, true);
            dueEmpty(mesh, false, false);
        }
        dueEmpty(withVertices(-M, -M, 0, 0, M, M), false, false);
        dueEmpty(withVertices(-M, M, M, -M, 1, -1), false, false);
    }

    private static void oneBesideTheLine() {
        for (int beside = -1; beside <= 1; beside += 2) {
            ExactMesh mesh = new ExactMesh();
            for (int v = 0; v < 11; v++) {
                mesh.vertex(v - 5, 0);
            }
            dueEmpty(mesh, false, false);
            mesh.vertex(0, beside);
            dueBuild(mesh, false, false, 10);
            due("area()", mesh.area(), 10);
            due("degree(11)", mesh.degree(11), 10);
        }
        dueMesh(built(-M, -M, M, M, 0, 0, 1, 0), 0, 3, 2, 1, 2, 3);
        dueMesh(built(-M, -M, M, M - 1, 1 - M, 1 - M), 0, 1, 2);
        dueMesh(built(-M, -M, M, M - 1, 999999, 999998), 0, 2, 1);
    }

    private static void holesCountOnlyIfAsked() {
        ExactMesh mesh = square();
        addSegments(mesh, 0, 1, 1, 2, 2, 3, 3, 0);
        addHole(mesh, 2, 1, 1);
        dueBuild(mesh, false, false, 2);
        dueBuild(mesh, false, true, 2);
        dueBuild(mesh, true, false, 0);
        dueBuild(mesh, true, true, 0);
    }

    private static void holeInside() {
        ExactMesh mesh = square();
        addSegments(mesh, 0, 2);
        addHole(mesh, 3, 1, 1);
        dueBuild(mesh, true, false, 1);
        dueMesh(mesh, 0, 2, 3);
    }

    private static void holeOnSide() {
        // On the segment between the two triangles: both go; those behind other segments stay.
        ExactMesh mesh = strip();
        addSegments(mesh, 1, 7, 2, 8, 3, 9);
        addHole(mesh, 8, 2, 1);
        dueBuild(mesh, true, false, 6);
        dueMesh(mesh, 0, 1, 7, 0, 7, 6, 3, 4, 10, 3, 10, 9, 4, 5, 11, 4, 11, 10);
        ExactMesh far = withVertices(-M, -M, M, -M, M, M, -M, M);
        addSegments(far, 0, 2);
        addHole(far, 999999, 999999, 1);
        dueBuild(far, true, false, 0);
    }

    private static void holeOnHull() {
        ExactMesh mesh = square();
        addSegments(mesh, 0, 2, 0, 1);
        addHole(mesh, 1, 0, 1);
        dueBuild(mesh, true, false, 1);
        dueMesh(mesh, 0, 2, 3);
        ExactMesh other = square();
        addSegments(other, 0, 2);
        addHole(other, 0, 3, 1);
        dueBuild(other, true, false, 1);
        dueMesh(other, 0, 1, 2);
    }

    private static void holeOnCorner() {
        // Vertex 7 is a corner of triangles in squares 0 and 1 alone.
        ExactMesh mesh = strip();
        addSegments(mesh, 1, 7, 2, 8, 0, 7, 1, 8);
        addHole(mesh, 4, 4, 1);
        dueBuild(mesh, true, false, 7);
        dueMesh(mesh, 1, 2, 8, 2, 3, 9, 2, 9, 8, 3, 4, 10, 3, 10, 9, 4, 5, 11, 4, 11, 10);
        ExactMesh tip = square();
        addSegments(tip, 0, 2);
        addHole(tip, 4, 0, 1);
        dueBuild(tip, true, false, 1);
        dueMesh(tip, 0, 2, 3);
        addHole(tip, 0, 0, 2);
        dueBuild(tip, true, false, 0);
    }

    private static void holeInNoTriangle() {
        ExactMesh mesh = square();
        int[][] beside = {{-1, 0}, {5, 2}, {2, 5}, {2, -1}, {5, 5}, {M, M}, {-M, 4}, {0, -M}};
        for (int[] p : beside) {
            ExactMesh other = square();
            addHole(other, p[0], p[1], 1);
            dueBuild(other, true, false, 2);
        }
        addHole(mesh, 4, 5, 1);
        addHole(mesh, 5, 4, 2);
        addHole(mesh, -1, -1, 3);
        dueBuild(mesh, true, false, 2);
        // Where no triangle is, none is taken out.
        ExactMesh line = withVertices(0, 0, 2, 2, 4, 4);
        addHole(line, 2, 2, 1);
        dueBuild(line, true, true, 0);
    }

    private static void holeByAHair() {
        // From vertex 0 to 1, (1 - M, 1 - M) lies to the left by a hair, and (999999, 999998) to the right.
        ExactMesh inside = withVertices(-M, -M, M, M - 1, -M, M);
        addHole(inside, 999999, 999998, 1);
        dueBuild(inside, true, false, 1);
        addHole(inside, 1 - M, 1 - M, 2);
        dueBuild(inside, true, false, 0);
        ExactMesh below = withVertices(-M, -M, M, M - 1, M, -M);
        addHole(below, 1 - M, 1 - M, 1);
        dueBuild(below, true, false, 1);
        addHole(below, 999999, 999998, 2);
        dueBuild(below, true, false, 0);
    }

    private static void threeHoles() {
        ExactMesh mesh = strip();
        addSegments(mesh, 1, 7, 2, 8, 3, 9, 4, 10);
        addHole(mesh, 18, 1, 1);
        addHole(mesh, 10, 1, 2);
        addHole(mesh, 2, 1, 3);
        dueBuild(mesh, true, false, 4);
        dueMesh(mesh, 1, 2, 8, 1, 8, 7, 3, 4, 10, 3, 10, 9);
        // Several at one point take out no more than one does.
        ExactMesh same = strip();
        addSegments(same, 1, 7);
        addHole(same, 2, 1, 1);
        addHole(same, 2, 1, 2);
        addHole(same, 1, 3, 3);
        dueBuild(same, true, false, 8);
    }

    private static void outsideCountsOnlyIfAsked() {
        ExactMesh mesh = square();
        dueBuild(mesh, false, false, 2);
        dueBuild(mesh, true, false, 2);
        dueBuild(mesh, false, true, 0);
        dueBuild(mesh, true, true, 0);
    }

    private static void oneOpenSide() {
        // Three of the square's four sides and its diagonal: only the triangle at the open side goes.
        for (int open = 0; open < 4; open++) {
            ExactMesh mesh = square();
            addSegments(mesh, 0, 2);
            for (int side = 0; side < 4; side++) {
                if (side != open) {
                    addSegments(mesh, side, (side + 1) % 4);
                }
            }
            dueBuild(mesh, false, true, 1);
            due("corner(0, 1)", mesh.corner(0, 1), open < 2 ? 2 : 1);
            addSegments(mesh, (open + 1) % 4, open);
            dueBuild(mesh, false, true, 2);
        }
    }

    private static void holeDoesNotOpenWalls() {
        // The hole takes a triangle out; the one behind the segment is not open to the outside by that.
        ExactMesh mesh = square();
        addSegments(mesh, 0, 1, 1, 2, 2, 3, 3, 0, 0, 2);
        addHole(mesh, 3, 1, 1);
        dueBuild(mesh, true, true, 1);
        dueMesh(mesh, 0, 2, 3);
        due("border()", mesh.border(), 3);
    }

    private static void cornerOnHullIsNotOpen() {
        // Triangle 0, 1, 4 has two corners on the hull and all its sides walled.
        ExactMesh mesh = withVertices(0, 0, 8, 0, 8, 8, 0, 8, 4, 4);
        addSegments(mesh, 4, 0, 4, 1, 0, 1);
        dueBuild(mesh, false, true, 1);
        dueMesh(mesh, 0, 1, 4);
        ExactMesh inner = withVertices(0, 0, 8, 0, 4, 8, 4, 0, 2, 4, 6, 4);
        addSegments(inner, 3, 4, 4, 5, 5, 3);
        dueBuild(inner, false, true, 1);
        dueMesh(inner, 3, 5, 4);
    }

    private static void carvingLeavesNothing() {
        ExactMesh mesh = crowd();
        addSegments(mesh, 0, 1, 1, 2, 2, 0);
        dueBuild(mesh, false, true, 19);
        addHole(mesh, 0, 0, 1);
        dueEmpty(mesh, true, false);
        dueEmpty(mesh, true, true);
        dueBuild(mesh, false, true, 19);
        due("degree(0) above 0", mesh.degree(0) > 0, true);
        ExactMesh open = crowd();
        dueEmpty(open, false, true);
        due("across(0, 0)", open.across(0, 0), NONE);
        due("fixed(0, 0)", open.fixed(0, 0), false);
    }

    private static void spreadsThroughAll() {
        // From the first square to the last, and back.
        int[] ends = {1, 19};
        for (int x : ends) {
            ExactMesh mesh = strip();
            addHole(mesh, x, 2, 1);
            dueBuild(mesh, true, false, 0);
        }
        // Walled in above and below: it comes in by the two ends alone.
        ExactMesh tunnel = strip();
        addSegments(tunnel, 0, 1, 1, 2, 2, 3, 3, 4, 4, 5, 6, 7, 7, 8, 8, 9, 9, 10, 10, 11);
        dueBuild(tunnel, false, true, 0);
        ExactMesh oneEnd = strip();
        addSegments(oneEnd, 0, 1, 1, 2, 2, 3, 3, 4, 6, 7, 7, 8, 8, 9, 9, 10, 0, 6);
        dueBuild(oneEnd, false, true, 0);
        ExactMesh most = crowd();
        addSegments(most, 0, 1, 1, 2, 2, 0);
        addHole(most, 1, 1, 1);
        dueBuild(most, true, true, 0);
    }

    private static void stopsAtSegments() {
        ExactMesh mesh = strip();
        addSegments(mesh, 0, 1, 1, 2, 2, 3, 3, 4, 6, 7, 7, 8, 8, 9, 9, 10, 0, 6);
        addSegments(mesh, 4, 10);
        dueBuild(mesh, false, true, 8);
        due("area()", mesh.area(), 128);
        addHole(mesh, 1, 1, 1);
        dueBuild(mesh, true, true, 0);
        ExactMesh walls = strip();
        addSegments(walls, 1, 7, 4, 10);
        addHole(walls, 1, 1, 1);
        dueBuild(walls, true, false, 8);
        addHole(walls, 19, 1, 2);
        dueBuild(walls, true, false, 6);
        addHole(walls, 10, 1, 3);
        dueBuild(walls, true, false, 0);
    }

    private static void goesAroundSegments() {
        // A wall from the middle to the right leaves a way around its end.
        ExactMesh mesh = withVertices(0, 0, 8, 0, 8, 8, 0, 8, 4, 4, 8, 4);
        addSegments(mesh, 4, 5);
        addHole(mesh, 7, 2, 1);
        dueBuild(mesh, false, false, 5);
        dueBuild(mesh, true, false, 0);
        ExactMesh closed = withVertices(0, 0, 8, 0, 8, 8, 0, 8, 4, 4, 8, 4, 0, 4);
        addSegments(closed, 4, 5, 6, 4);
        addHole(closed, 7, 2, 1);
        dueBuild(closed, false, false, 6);
        dueBuild(closed, true, false, 3);
        due("area()", closed.area(), 64);
    }

    private static void doesNotSpreadOverCorners() {
        ExactMesh mesh = twoSquares();
        dueBuild(mesh, false, true, 4);
        dueMesh(mesh, 0, 1, 2, 0, 2, 3, 2, 4, 5, 2, 5, 6);
        due("border()", mesh.border(), 8);
        due("degree(2)", mesh.degree(2), 4);
        addHole(mesh, 1, 2, 1);
        dueBuild(mesh, true, true, 2);
        dueMesh(mesh, 2, 4, 5, 2, 5, 6);
        addHole(mesh, 4, 4, 2);
        dueBuild(mesh, true, true, 0);
    }

    private static void cornersInOrder() {
        // The same triangle from each corner on, and numbered the other way around.
        dueMesh(built(0, 0, 4, 0, 0, 4), 0, 1, 2);
        dueMesh(built(4, 0, 0, 4, 0, 0), 0, 1, 2);
        dueMesh(built(0, 4, 0, 0, 4, 0), 0, 1, 2);
        dueMesh(built(0, 0, 0, 4, 4, 0), 0, 2, 1);
        dueMesh(built(4, 0, 0, 0, 0, 4), 0, 2, 1);
        dueMesh(built(0, 4, 4, 0, 0, 0), 0, 2, 1);
    }

    private static void trianglesInOrder() {
        dueMesh(built(4, 4, 8, 0, 8, 8, 0, 8, 0, 0), 0, 1, 2, 0, 2, 3, 0, 3, 4, 0, 4, 1);
        dueMesh(built(4, 4, 8, 0, 0, 0, 0, 8, 8, 8), 0, 1, 4, 0, 2, 1, 0, 3, 2, 0, 4, 3);
        dueMesh(built(8, 0, 8, 8, 0, 8, 0, 0, 4, 4), 0, 1, 4, 0, 4, 3, 1, 2, 4, 2, 3, 4);
        ExactMesh most = crowd();
        dueBuild(most, false, false, 19);
        for (int t = 0; t < 18; t++) {
            int rank = 12 * most.corner(t, 0) + most.corner(t, 1);
            int next = 12 * most.corner(t + 1, 0) + most.corner(t + 1, 1);
            due("triangle " + t + " before the next", rank < next, true);
        }
    }

    private static void numberedAfterCarving() {
        ExactMesh mesh = strip();
        addSegments(mesh, 1, 7, 2, 8);
        addHole(mesh, 2, 1, 1);
        dueBuild(mesh, true, false, 8);
        dueMesh(mesh, 1, 2, 8, 1, 8, 7, 2, 3, 9, 2, 9, 8, 3, 4, 10, 3, 10, 9, 4, 5, 11, 4, 11, 10);
        due("across(0, 1)", mesh.across(0, 1), 3);
        due("across(3, 2)", mesh.across(3, 2), 0);
        due("across(1, 2)", mesh.across(1, 2), NONE);
        dueLocate(mesh, 19, 1, 6);
        due("corner(8, 0)", mesh.corner(8, 0), NONE);
        addHole(mesh, 6, 1, 2);
        dueBuild(mesh, true, false, 6);
        dueMesh(mesh, 2, 3, 9, 2, 9, 8, 3, 4, 10, 3, 10, 9, 4, 5, 11, 4, 11, 10);
    }

    private static void sidesInOrder() {
        // Around a hub that is numbered 0, side 0 of each triangle has the one before it on its other side.
        ExactMesh hub = built(4, 4, 8, 0, 8, 8, 0, 8, 0, 0);
        for (int t = 0; t < 4; t++) {
            due("across(" + t + ", 0)", hub.across(t, 0), (t + 3) % 4);
            due("across(" + t + ", 1)", hub.across(t, 1), NONE);
            due("across(" + t + ", 2)", hub.across(t, 2), (t + 1) % 4);
        }
        int[][] ends = {{0, 1}, {1, 2}, {2, 0}};
        for (int k = 0; k < 3; k++) {
            ExactMesh mesh = withVertices(0, 0, 4, 0, 0, 4);
            addSegments(mesh, ends[k][1], ends[k][0]);
            dueBuild(mesh, false, false, 1);
            for (int side = 0; side < 3; side++) {
                due("fixed(0, " + side + ")", mesh.fixed(0, side), side == k);
            }
        }
    }

    /** The two triangles of a square with the segment 0-1, as they are told until build() comes again. */
    private static void dueSquareAsBuilt(ExactMesh mesh) {
        dueMesh(mesh, 0, 1, 2, 0, 2, 3);
        int[][] across = {{NONE, NONE, 1}, {0, NONE, NONE}};
        for (int t = 0; t < 2; t++) {
            for (int k = 0; k < 3; k++) {
                due("across(" + t + ", " + k + ")", mesh.across(t, k), across[t][k]);
                due("fixed(" + t + ", " + k + ")", mesh.fixed(t, k), t == 0 && k == 0);
            }
        }
        dueLocate(mesh, 3, 1, 0);
        dueLocate(mesh, 1, 3, 1);
        dueLocate(mesh, 2, 2, 0);
        dueLocate(mesh, 5, 2, NONE);
        due("area()", mesh.area(), 32);
        due("border()", mesh.border(), 4);
        int[] degrees = {2, 1, 2, 1};
        for (int v = 0; v < 4; v++) {
            due("degree(" + v + ")", mesh.degree(v), degrees[v]);
        }
    }

    private static ExactMesh builtSquare() {
        ExactMesh mesh = square();
        addSegments(mesh, 0, 1);
        dueBuild(mesh, false, false, 2);
        dueSquareAsBuilt(mesh);
        return mesh;
    }

    private static void newVerticesDoNotCount() {
        // Inside, on an inner side, on the hull, beyond it.
        int[][] places = {{1, 2}, {2, 2}, {4, 2}, {9, 2}};
        int[] then = {4, 4, 3, 3};
        for (int i = 0; i < 4; i++) {
            ExactMesh mesh = builtSquare();
            due("vertex", mesh.vertex(places[i][0], places[i][1]), 4);
            dueSquareAsBuilt(mesh);
            due("degree(4)", mesh.degree(4), 0);
            dueBuild(mesh, false, false, then[i]);
            due("degree(4) above 0", mesh.degree(4) > 0, true);
        }
    }

    private static void newSegmentsDoNotCount() {
        ExactMesh mesh = builtSquare();
        addSegments(mesh, 1, 3, 2, 3);
        dueSquareAsBuilt(mesh);
        dueBuild(mesh, false, false, 2);
        dueMesh(mesh, 0, 1, 3, 1, 2, 3);
        due("fixed(0, 1)", mesh.fixed(0, 1), true);
        due("fixed(1, 1)", mesh.fixed(1, 1), true);
    }

    private static void newHolesDoNotCount() {
        ExactMesh mesh = builtSquare();
        addHole(mesh, 2, 2, 1);
        addHole(mesh, 0, 0, 2);
        addHole(mesh, 9, 9, 3);
        dueSquareAsBuilt(mesh);
        dueBuild(mesh, true, false, 0);
        dueBuild(mesh, false, false, 2);
        dueSquareAsBuilt(mesh);
    }

    private static void latestBuildCounts() {
        ExactMesh mesh = builtSquare();
        for (int times = 0; times < 3; times++) {
            dueBuild(mesh, false, true, 0);
            due("triangles()", mesh.triangles(), 0);
            due("area()", mesh.area(), 0);
            dueBuild(mesh, false, false, 2);
            dueSquareAsBuilt(mesh);
            dueBuild(mesh, true, false, 2);
            dueSquareAsBuilt(mesh);
        }
    }
}
