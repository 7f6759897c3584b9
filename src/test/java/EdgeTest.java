/**
 * The edges of promises 1 to 18: the least and the largest arguments and those just beyond them, any ints
 * where the document says so, nothing made and as much made as there may be. One test for each sentence of
 * the document that names such an edge; the sentence is printed with every answer that is not due.
 */
public final class EdgeTest {
    private static final int LEAST = Integer.MIN_VALUE;
    private static final int LARGEST = Integer.MAX_VALUE;
    private static final int NONE = ExactMesh.NONE;
    private static final int M = 1000000;

    /** The twelve whole points on the circle of radius 5, counterclockwise. */
    private static final int[] ROUND = {5, 0, 4, 3, 3, 4, 0, 5, -3, 4, -4, 3, -5, 0, -4, -3, -3, -4, 0, -5, 3, -4, 4, -3};

    private static int wrong = 0;
    private static int answers = 0;
    private static String sentence = "";

    public static void main(String[] args) {
        testMaking();
        testSigns();
        testBuild();
        testQuestionsByTriangle();
        testLocate();
        testQuestionsByVertex();
        testSums();
        System.out.println(wrong == 0 ? "all answers are as due" : wrong + " answers are not as due");
        if (wrong != 0) {
            System.exit(1);
        }
    }

    private static void testMaking() {
        test("1: no vertices, segments or holes", EdgeTest::newObjectHasNothing);
        test("1: each object has its own", EdgeTest::objectsShareNothing);
        test("2: its number", EdgeTest::vertexNumbers);
        test("2: when there is one at that point already, that one's number", EdgeTest::vertexThereAlready);
        test("2: also when 12 are there", EdgeTest::vertexThereAlreadyWhenFull);
        test("2: -2 if a coordinate is not -1000000 .. 1000000", EdgeTest::vertexTooFarOut);
        test("2: -3 if 12 are there (and none at that point)", EdgeTest::vertexWhenFull);
        test("2: -4 if the point lies on a segment", EdgeTest::vertexOnSegment);
        test("2: -4, far out and by a hair", EdgeTest::vertexBesideLongSegment);
        test("3: its number", EdgeTest::segmentNumbers);
        test("3: -2 if a or b is no vertex", EdgeTest::segmentWithoutVertex);
        test("3: -2 if both are the same", EdgeTest::segmentWithoutLength);
        test("3: -3 if there is a segment between them (either way)", EdgeTest::segmentThereAlready);
        test("3: -3 if 10 are there", EdgeTest::segmentWhenFull);
        test("3: -4 if another vertex lies on it", EdgeTest::segmentOverVertex);
        test("3: -4, far out and by a hair", EdgeTest::longSegmentBesideVertex);
        test("3: -5 if it has another point in common with a segment", EdgeTest::segmentAcrossSegment);
        test("3: -5 not for an end of both", EdgeTest::segmentsFromOneEnd);
        test("3: -5, far out and by a hair", EdgeTest::segmentJustAcross);
        test("4: how many there are then", EdgeTest::holeCounts);
        test("4: at any point, also one there or a vertex's", EdgeTest::holeAnywhere);
        test("4: -2 if a coordinate is not -1000000 .. 1000000", EdgeTest::holeTooFarOut);
        test("4: -3 if 3 are there", EdgeTest::holeWhenFull);
    }

    private static void testSigns() {
        test("5: 0 if the three lie on one line", EdgeTest::turnOnOneLine);
        test("5: also when two are the same", EdgeTest::turnWithTwoTheSame);
        test("5: 1 to the left, -1 to the right, by a hair", EdgeTest::turnByAHair);
        test("5: 2 if one of them is no vertex", EdgeTest::turnWithoutVertex);
        test("6: perhaps one of them: 0", EdgeTest::inCircleOneOfThem);
        test("6: in whatever order", EdgeTest::inCircleInAnyOrder);
        test("6: 0 if on it, far out", EdgeTest::inCircleOnLargestCircle);
        test("6: inside or outside by a hair", EdgeTest::inCircleByAHair);
        test("6: far inside, far outside", EdgeTest::inCircleByFar);
        test("6: 2 if one of them is no vertex", EdgeTest::inCircleWithoutVertex);
        test("6: 2 if a, b and c lie on one line", EdgeTest::inCircleOnOneLine);
    }

    private static void testBuild() {
        test("7: perhaps 0", EdgeTest::buildOfNothing);
        test("7: the least there is to build", EdgeTest::buildOfThree);
        test("7: as many triangles as there can be", EdgeTest::buildOfMost);
        test("7: as few triangles as 12 vertices can have", EdgeTest::buildOfFewest);
        test("7: the vertices and segments that are there now", EdgeTest::buildTakesWhatIsThereNow);
        test("7: the holes that are there now", EdgeTest::buildTakesHolesThatAreThereNow);
        test("7: by the holes, by the outside, by both or by nothing", EdgeTest::buildByEach);
        test("an object is used for at most 512 calls", EdgeTest::lastCallOfAll);
    }

    private static void testQuestionsByTriangle() {
        test("8: before the first build it has no triangles", EdgeTest::trianglesBeforeBuild);
        test("8: how many triangles the mesh has", EdgeTest::trianglesAfterBuild);
        test("9: corner k of triangle t, the first and the last", EdgeTest::cornerFirstAndLast);
        test("9: NONE if there is no such triangle", EdgeTest::cornerWithoutTriangle);
        test("9: NONE if k is not 0 .. 2", EdgeTest::cornerWithoutSuchK);
        test("10: the triangle on the other side, the first and the last", EdgeTest::acrossFirstAndLast);
        test("10: NONE if there is none there", EdgeTest::acrossNothing);
        test("10: NONE if there is no triangle t", EdgeTest::acrossWithoutTriangle);
        test("10: NONE if k is not 0 .. 2", EdgeTest::acrossWithoutSuchK);
        test("11: was a segment in the latest build()", EdgeTest::fixedInLatestBuild);
        test("11: false if there is no such triangle", EdgeTest::fixedWithoutTriangle);
        test("11: false if k is not 0 .. 2", EdgeTest::fixedWithoutSuchK);
    }

    private static void testLocate() {
        test("12: the least number of a triangle in which the point lies", EdgeTest::locateLeastNumber);
        test("12: inside or on a side or corner", EdgeTest::locateOnSideOrCorner);
        test("12: NONE if there is none", EdgeTest::locateNothing);
        test("12: any ints", EdgeTest::locateAnyInts);
        test("12: any ints, where a difference leaves the ints", EdgeTest::locateWhereIntsWrap);
        test("12: by a hair", EdgeTest::locateByAHair);
    }

    private static void testQuestionsByVertex() {
        test("13: how many triangles have vertex v as a corner", EdgeTest::degreeLeastAndLargest);
        test("13: 0 of one that was made since", EdgeTest::degreeOfNewVertex);
        test("13: NONE if there is no vertex v", EdgeTest::degreeWithoutVertex);
        test("18: the x if k is 0, its y if k is 1", EdgeTest::placeLeastAndLargest);
        test("18: 0 if there is no vertex v", EdgeTest::placeWithoutVertex);
        test("18: 0 if k is neither", EdgeTest::placeWithoutSuchK);
    }

    private static void testSums() {
        test("14: twice the sum, the least and the largest", EdgeTest::areaLeastAndLargest);
        test("14: as carved", EdgeTest::areaAsCarved);
        test("15: sides with no triangle of the mesh on their other side", EdgeTest::borderLeastAndLargest);
        test("15: of the mesh, as carved", EdgeTest::borderAsCarved);
        test("16: how many vertices there are, none to 12", EdgeTest::verticesNoneToTwelve);
        test("17: how many segments there are, none to 10", EdgeTest::segmentsNoneToTen);
    }

    private static void test(String words, Runnable body) {
        sentence = words;
        int before = answers;
        body.run();
        if (answers == before) {
            due("this test has looked at nothing", 0, 1);
        }
    }

    private static void due(String call, long got, long want) {
        answers++;
        if (got != want) {
            wrong++;
            System.out.println("promise " + sentence + ": " + call + " answered " + got + ", due is " + want);
        }
    }

    private static void due(String call, boolean got, boolean want) {
        due(call, got ? 1 : 0, want ? 1 : 0);
    }

    private static void dueVertex(ExactMesh mesh, int x, int y, int want) {
        due("vertex(" + x + ", " + y + ")", mesh.vertex(x, y), want);
    }

    private static void dueSegment(ExactMesh mesh, int a, int b, int want) {
        due("segment(" + a + ", " + b + ")", mesh.segment(a, b), want);
    }

    private static void dueHole(ExactMesh mesh, int x, int y, int want) {
        due("hole(" + x + ", " + y + ")", mesh.hole(x, y), want);
    }

    private static void dueTurn(ExactMesh mesh, int a, int b, int c, int want) {
        due("turn(" + a + ", " + b + ", " + c + ")", mesh.turn(a, b, c), want);
    }

    private static void dueInCircle(ExactMesh mesh, int a, int b, int c, int d, int want) {
        due("inCircle(" + a + ", " + b + ", " + c + ", " + d + ")", mesh.inCircle(a, b, c, d), want);
    }

    private static void dueBuild(ExactMesh mesh, boolean holes, boolean outside, int want) {
        due("build(" + holes + ", " + outside + ")", mesh.build(holes, outside), want);
    }

    private static void dueLocate(ExactMesh mesh, int x, int y, int want) {
        due("locate(" + x + ", " + y + ")", mesh.locate(x, y), want);
    }

    private static ExactMesh withVertices(int... places) {
        ExactMesh mesh = new ExactMesh();
        for (int i = 0; i < places.length; i += 2) {
            dueVertex(mesh, places[i], places[i + 1], i / 2);
        }
        return mesh;
    }

    private static void addSegments(ExactMesh mesh, int... ends) {
        for (int i = 0; i < ends.length; i += 2) {
            dueSegment(mesh, ends[i], ends[i + 1], i / 2);
        }
    }

    private static ExactMesh round(int scale) {
        int[] places = new int[24];
        for (int i = 0; i < 24; i++) {
            places[i] = ROUND[i] * scale;
        }
        return withVertices(places);
    }

    /** Vertices 0 .. 5 at (4i, 0) and 6 .. 11 above them: five squares, halved from i to i + 7. */
    private static ExactMesh strip() {
        return withVertices(0, 0, 4, 0, 8, 0, 12, 0, 16, 0, 20, 0, 0, 4, 4, 4, 8, 4, 12, 4, 16, 4, 20, 4);
    }

    /** Twelve vertices within a triangle: 19 triangles. */
    private static ExactMesh crowd() {
        return withVertices(0, 0, 100, 0, 50, 90, 50, 20, 40, 30, 60, 30, 45, 40, 55, 41, 48, 25, 53, 27, 50, 33, 49, 60);
    }

    /** One vertex with segments to ten others, of eleven that are there. */
    private static ExactMesh fan() {
        ExactMesh mesh = withVertices(0, 0, 1, 9, 2, 9, 3, 9, 4, 9, 5, 9, 6, 9, 7, 9, 8, 9, 9, 9, 10, 9, 11, 9);
        addSegments(mesh, 0, 1, 0, 2, 0, 3, 0, 4, 0, 5, 0, 6, 0, 7, 0, 8, 0, 9, 0, 10);
        return mesh;
    }

    private static ExactMesh square() {
        return withVertices(0, 0, 4, 0, 4, 4, 0, 4);
    }

    /**
     * The numbers just beyond 0 .. count - 1, the farthest ints, and some that come back among
     * 0 .. count - 1 when they are halved, shifted out of 32 bits or multiplied by 3, 4, 12 or 16.
     */
    private static int[] notBelow(int count) {
        return new int[] {-1, -2, -12, -32, LEAST, LEAST + 1, count, count + 1, 32 + count, 64,
            0x10000000, 0x15555556, 0x20000000, 0x40000000, 0x55555556, LARGEST - 1, LARGEST};
    }

    private static void newObjectHasNothing() {
        ExactMesh mesh = new ExactMesh();
        due("vertices()", mesh.vertices(), 0);
        due("segments()", mesh.segments(), 0);
        due("triangles()", mesh.triangles(), 0);
        due("corner(0, 0)", mesh.corner(0, 0), NONE);
        due("across(0, 0)", mesh.across(0, 0), NONE);
        due("fixed(0, 0)", mesh.fixed(0, 0), false);
        due("degree(0)", mesh.degree(0), NONE);
        due("place(0, 0)", mesh.place(0, 0), 0);
        due("area()", mesh.area(), 0);
        due("border()", mesh.border(), 0);
        dueLocate(mesh, 0, 0, NONE);
        dueTurn(mesh, 0, 0, 0, 2);
        dueInCircle(mesh, 0, 0, 0, 0, 2);
        dueSegment(mesh, 0, 1, -2);
        // No vertex, and so no segment, is at (0, 0) before one has been made there.
        dueVertex(mesh, 0, 0, 0);
        dueVertex(mesh, 4, 0, 1);
        dueVertex(mesh, 0, 4, 2);
        // Nor is there a hole.
        dueBuild(mesh, true, false, 1);
        dueHole(mesh, 0, 0, 1);
    }

    private static void objectsShareNothing() {
        ExactMesh one = square();
        ExactMesh other = new ExactMesh();
        addSegments(one, 0, 1, 1, 2);
        dueHole(one, 1, 1, 1);
        dueBuild(one, false, false, 2);
        due("the other's vertices()", other.vertices(), 0);
        due("the other's segments()", other.segments(), 0);
        due("the other's triangles()", other.triangles(), 0);
        dueHole(other, 1, 1, 1);
        dueVertex(other, 4, 4, 0);
        dueBuild(other, true, true, 0);
        due("the one's triangles()", one.triangles(), 2);
        due("the one's vertices()", one.vertices(), 4);
    }

    private static void vertexNumbers() {
        ExactMesh mesh = new ExactMesh();
        for (int v = 0; v < 12; v++) {
            due("vertices()", mesh.vertices(), v);
            dueVertex(mesh, M - v, v - M, v);
        }
        due("vertices()", mesh.vertices(), 12);
    }

    private static void vertexThereAlready() {
        ExactMesh mesh = withVertices(0, 0, 3, 4, 4, 3, -3, 4, 3, -4, M, -M);
        dueVertex(mesh, 0, 0, 0);
        dueVertex(mesh, 3, 4, 1);
        dueVertex(mesh, 4, 3, 2);
        dueVertex(mesh, -3, 4, 3);
        dueVertex(mesh, 3, -4, 4);
        dueVertex(mesh, M, -M, 5);
        due("vertices()", mesh.vertices(), 6);
        addSegments(mesh, 0, 1);
        dueVertex(mesh, 0, 0, 0);
        dueVertex(mesh, 3, 4, 1);
        due("vertices()", mesh.vertices(), 6);
    }

    private static void vertexThereAlreadyWhenFull() {
        ExactMesh mesh = fan();
        dueVertex(mesh, 0, 0, 0);
        for (int v = 1; v < 12; v++) {
            dueVertex(mesh, v, 9, v);
        }
        due("vertices()", mesh.vertices(), 12);
    }

    private static void vertexTooFarOut() {
        ExactMesh mesh = withVertices(M, 0, -M, 0, 0, M, 0, -M, M, M, -M, -M, M, -M, -M, M);
        int[] beyond = {M + 1, -M - 1, 2 * M, -2 * M, LARGEST, LEAST, LEAST + 1};
        for (int far : beyond) {
            dueVertex(mesh, far, 0, -2);
            dueVertex(mesh, 0, far, -2);
            dueVertex(mesh, far, far, -2);
            dueVertex(mesh, far, M, -2);
            dueVertex(mesh, -M, far, -2);
        }
        due("vertices()", mesh.vertices(), 8);
        dueVertex(mesh, 0, 0, 8);
    }

    private static void vertexWhenFull() {
        ExactMesh mesh = withVertices(0, 0, 1, 0, 2, 0, 3, 0, 4, 0, 5, 0, 6, 0, 7, 0, 8, 0, 9, 0, 10, 0);
        dueVertex(mesh, 11, 0, 11);
        dueVertex(mesh, 12, 0, -3);
        dueVertex(mesh, M, M, -3);
        dueVertex(mesh, -M, -M, -3);
        dueVertex(mesh, 11, 0, 11);
        due("vertices()", mesh.vertices(), 12);
    }

    private static void vertexOnSegment() {
        ExactMesh mesh = withVertices(0, 0, 6, 4, 0, 9, -9, 0, 9, -9, 9, 9);
        addSegments(mesh, 0, 1, 2, 0, 0, 3, 4, 5);
        dueVertex(mesh, 3, 2, -4);
        dueVertex(mesh, 0, 1, -4);
        dueVertex(mesh, 0, 8, -4);
        dueVertex(mesh, -1, 0, -4);
        dueVertex(mesh, -8, 0, -4);
        dueVertex(mesh, 9, 0, -4);
        due("vertices()", mesh.vertices(), 6);
        dueVertex(mesh, 0, 0, 0);
        dueVertex(mesh, 9, 6, -4);
        // On a segment's line, but beyond its ends.
        dueVertex(mesh, 12, 8, 6);
        dueVertex(mesh, -3, -2, 7);
        dueVertex(mesh, 0, 10, 8);
        dueVertex(mesh, -10, 0, 9);
        dueVertex(mesh, 9, 10, 10);
        // Beside a segment, within its width and height.
        dueVertex(mesh, 3, 1, 11);
    }

    private static void vertexBesideLongSegment() {
        ExactMesh even = withVertices(-M, -M, M, M);
        addSegments(even, 0, 1);
        dueVertex(even, 0, 0, -4);
        dueVertex(even, 999999, 999999, -4);
        dueVertex(even, -999999, -999999, -4);
        dueVertex(even, 999999, 999998, 2);
        dueVertex(even, -999999, -999998, 3);
        // No whole point lies on this one but its ends; these two pass it on both sides by a hair.
        ExactMesh odd = withVertices(-M, -M, M, M - 1);
        addSegments(odd, 1, 0);
        dueVertex(odd, 1 - M, 1 - M, 2);
        dueVertex(odd, 999999, 999998, 3);
        dueVertex(odd, 0, 0, 4);
        dueVertex(odd, 0, -1, 5);
    }

    private static void segmentNumbers() {
        ExactMesh mesh = round(1);
        for (int i = 0; i < 10; i++) {
            due("segments()", mesh.segments(), i);
            dueSegment(mesh, 11 - i, 10 - i, i);
        }
        due("segments()", mesh.segments(), 10);
    }

    private static void segmentWithoutVertex() {
        ExactMesh none = new ExactMesh();
        dueSegment(none, 0, 1, -2);
        dueSegment(none, 1, 0, -2);
        dueSegment(none, 0, 0, -2);
        ExactMesh some = withVertices(0, 0, 4, 0);
        ExactMesh full = round(1);
        for (int i = 0; i < 17; i++) {
            dueSegment(some, 0, notBelow(2)[i], -2);
            dueSegment(some, notBelow(2)[i], 1, -2);
            dueSegment(some, notBelow(2)[i], notBelow(2)[16 - i], -2);
            dueSegment(full, 11, notBelow(12)[i], -2);
            dueSegment(full, notBelow(12)[i], 0, -2);
        }
        due("segments()", some.segments(), 0);
        dueSegment(some, 0, 1, 0);
        dueSegment(full, 11, 0, 0);
    }

    private static void segmentWithoutLength() {
        ExactMesh mesh = round(1);
        for (int v = 0; v < 12; v++) {
            dueSegment(mesh, v, v, -2);
        }
        for (int v : notBelow(12)) {
            dueSegment(mesh, v, v, -2);
        }
        due("segments()", mesh.segments(), 0);
    }

    private static void segmentThereAlready() {
        ExactMesh mesh = round(1);
        addSegments(mesh, 0, 1, 11, 10, 0, 11);
        dueSegment(mesh, 0, 1, -3);
        dueSegment(mesh, 1, 0, -3);
        dueSegment(mesh, 11, 10, -3);
        dueSegment(mesh, 10, 11, -3);
        dueSegment(mesh, 0, 11, -3);
        dueSegment(mesh, 11, 0, -3);
        due("segments()", mesh.segments(), 3);
        dueSegment(mesh, 1, 11, 3);
    }

    private static void segmentWhenFull() {
        ExactMesh mesh = round(1);
        addSegments(mesh, 0, 1, 1, 2, 2, 3, 3, 4, 4, 5, 5, 6, 6, 7, 7, 8, 8, 9, 9, 10);
        dueSegment(mesh, 10, 11, -3);
        dueSegment(mesh, 11, 0, -3);
        dueSegment(mesh, 0, 2, -3);
        dueSegment(mesh, 0, 1, -3);
        due("segments()", mesh.segments(), 10);
    }

    private static void segmentOverVertex() {
        ExactMesh mesh = withVertices(0, 0, 9, 6, 3, 2, 0, 9, 0, 8, -9, 0, -1, 0);
        dueSegment(mesh, 0, 1, -4);
        dueSegment(mesh, 1, 0, -4);
        dueSegment(mesh, 0, 3, -4);
        dueSegment(mesh, 3, 0, -4);
        dueSegment(mesh, 5, 0, -4);
        dueSegment(mesh, 0, 5, -4);
        due("segments()", mesh.segments(), 0);
        // Only on their lines, not on them, lie other vertices.
        dueSegment(mesh, 0, 2, 0);
        dueSegment(mesh, 2, 1, 1);
        dueSegment(mesh, 4, 3, 2);
        dueSegment(mesh, 6, 5, 3);
    }

    private static void longSegmentBesideVertex() {
        ExactMesh even = withVertices(-M, -M, M, M, 999999, 999999, 999999, 999998);
        dueSegment(even, 0, 1, -4);
        dueSegment(even, 1, 2, 0);
        dueSegment(even, 2, 0, 1);
        ExactMesh odd = withVertices(-M, -M, M, M - 1, 1 - M, 1 - M, 999999, 999998, 0, 0, 0, -1);
        dueSegment(odd, 0, 1, 0);
        ExactMesh upright = withVertices(M, -M, M, M, M, 1 - M, M - 1, 0);
        dueSegment(upright, 1, 0, -4);
        dueSegment(upright, 1, 2, 0);
    }

    private static void segmentAcrossSegment() {
        ExactMesh mesh = withVertices(0, 0, 8, 8, 0, 8, 8, 0, 1, 0, 0, 1, 4, 8, 4, 9);
        addSegments(mesh, 0, 1);
        dueSegment(mesh, 2, 3, -5);
        dueSegment(mesh, 3, 2, -5);
        dueSegment(mesh, 4, 5, -5);
        dueSegment(mesh, 5, 3, -5);
        due("segments()", mesh.segments(), 1);
        dueSegment(mesh, 2, 6, 1);
        dueSegment(mesh, 7, 3, -5);
        dueSegment(mesh, 6, 7, 2);
    }

    private static void segmentsFromOneEnd() {
        ExactMesh star = fan();
        due("segments()", star.segments(), 10);
        ExactMesh line = withVertices(0, 0, 2, 1, 4, 2, 6, 3, 8, 4);
        // End to end on one line, in either direction, and with a gap between.
        dueSegment(line, 1, 2, 0);
        dueSegment(line, 1, 0, 1);
        dueSegment(line, 4, 3, 2);
        dueSegment(line, 3, 2, 3);
        ExactMesh triangle = withVertices(0, 0, 4, 0, 0, 4);
        addSegments(triangle, 0, 1, 1, 2, 2, 0);
    }

    private static void segmentJustAcross() {
        // The first segment passes (1 - M, 1 - M) on its left and (999999, 999998) on its right.
        ExactMesh mesh = withVertices(-M, -M, M, M - 1, 1 - M, 1 - M, 999999, 999998, -M, M, M, -M);
        addSegments(mesh, 0, 1);
        dueSegment(mesh, 2, 3, -5);
        dueSegment(mesh, 2, 5, -5);
        dueSegment(mesh, 4, 3, -5);
        dueSegment(mesh, 4, 5, -5);
        dueSegment(mesh, 2, 4, 1);
        dueSegment(mesh, 3, 5, 2);
        dueSegment(mesh, 2, 0, 3);
        dueSegment(mesh, 3, 1, 4);
    }

    private static void holeCounts() {
        ExactMesh mesh = new ExactMesh();
        dueHole(mesh, 0, 0, 1);
        dueHole(mesh, M, M, 2);
        dueHole(mesh, -M, -M, 3);
        due("vertices()", mesh.vertices(), 0);
        due("segments()", mesh.segments(), 0);
    }

    private static void holeAnywhere() {
        ExactMesh mesh = square();
        addSegments(mesh, 0, 2);
        dueHole(mesh, 0, 0, 1);
        dueHole(mesh, 0, 0, 2);
        dueHole(mesh, 2, 2, 3);
        ExactMesh other = square();
        dueHole(other, 9, 9, 1);
        dueHole(other, 9, 9, 2);
        dueHole(other, 9, 9, 3);
        // A hole is no vertex and keeps none away.
        dueVertex(other, 9, 9, 4);
    }

    private static void holeTooFarOut() {
        ExactMesh mesh = new ExactMesh();
        int[] beyond = {M + 1, -M - 1, 2 * M, -2 * M, LARGEST, LEAST, LEAST + 1};
        for (int far : beyond) {
            dueHole(mesh, far, 0, -2);
            dueHole(mesh, 0, far, -2);
            dueHole(mesh, far, far, -2);
            dueHole(mesh, far, -M, -2);
            dueHole(mesh, M, far, -2);
        }
        dueHole(mesh, M, -M, 1);
        dueHole(mesh, -M, M, 2);
    }

    private static void holeWhenFull() {
        ExactMesh mesh = new ExactMesh();
        dueHole(mesh, 0, 0, 1);
        dueHole(mesh, 1, 0, 2);
        dueHole(mesh, 2, 0, 3);
        dueHole(mesh, 3, 0, -3);
        dueHole(mesh, 0, 0, -3);
        dueHole(mesh, M, M, -3);
    }

    private static void turnOnOneLine() {
        ExactMesh mesh = withVertices(-M, -M, 0, 0, M, M, -M, M, M, -M, 0, M, 0, -M, M, 0, -M, 0);
        int[][] lines = {{0, 1, 2}, {3, 1, 4}, {5, 1, 6}, {7, 1, 8}, {3, 5, 2}, {0, 6, 4}, {2, 7, 4}, {0, 8, 3}};
        for (int[] l : lines) {
            dueTurn(mesh, l[0], l[1], l[2], 0);
            dueTurn(mesh, l[0], l[2], l[1], 0);
            dueTurn(mesh, l[1], l[0], l[2], 0);
            dueTurn(mesh, l[2], l[1], l[0], 0);
        }
    }

    private static void turnWithTwoTheSame() {
        ExactMesh mesh = round(200000);
        for (int v = 0; v < 12; v++) {
            int w = 11 - v;
            dueTurn(mesh, v, v, w, 0);
            dueTurn(mesh, v, w, v, 0);
            dueTurn(mesh, w, v, v, 0);
            dueTurn(mesh, v, v, v, 0);
        }
    }

    private static void turnByAHair() {
        ExactMesh mesh = withVertices(-M, -M, M, M - 1, 1 - M, 1 - M, 999999, 999998, M, -M, -M, M);
        dueTurn(mesh, 0, 1, 2, 1);
        dueTurn(mesh, 1, 0, 2, -1);
        dueTurn(mesh, 1, 2, 0, 1);
        dueTurn(mesh, 2, 1, 0, -1);
        dueTurn(mesh, 0, 1, 3, -1);
        dueTurn(mesh, 1, 0, 3, 1);
        dueTurn(mesh, 3, 0, 1, -1);
        dueTurn(mesh, 3, 1, 0, 1);
        // As far to a side as it can be.
        dueTurn(mesh, 0, 4, 5, 1);
        dueTurn(mesh, 4, 0, 5, -1);
        dueTurn(mesh, 0, 1, 4, -1);
        dueTurn(mesh, 0, 1, 5, 1);
    }

    private static void turnWithoutVertex() {
        ExactMesh none = new ExactMesh();
        dueTurn(none, 0, 0, 0, 2);
        dueTurn(none, -1, -1, -1, 2);
        ExactMesh some = withVertices(0, 0, 4, 0, 0, 4);
        ExactMesh full = round(1);
        dueTurn(full, 0, 11, 1, -1);
        dueTurn(full, 11, 0, 1, 1);
        for (int i = 0; i < 17; i++) {
            int beyondSome = notBelow(3)[i];
            dueTurn(some, beyondSome, 1, 2, 2);
            dueTurn(some, 0, beyondSome, 2, 2);
            dueTurn(some, 0, 1, beyondSome, 2);
            dueTurn(some, 0, 0, beyondSome, 2);
            dueTurn(some, beyondSome, beyondSome, 0, 2);
            dueTurn(some, beyondSome, beyondSome, beyondSome, 2);
            int beyondFull = notBelow(12)[i];
            dueTurn(full, beyondFull, 11, 0, 2);
            dueTurn(full, 11, beyondFull, 0, 2);
            dueTurn(full, 11, 0, beyondFull, 2);
        }
    }

    private static void inCircleOneOfThem() {
        ExactMesh mesh = withVertices(-M, -M, M, M - 1, 1 - M, 1 - M, M, -M, 3, 7);
        int[][] triples = {{0, 1, 2}, {2, 1, 0}, {0, 3, 1}, {3, 4, 2}, {1, 4, 0}};
        for (int[] t : triples) {
            dueInCircle(mesh, t[0], t[1], t[2], t[0], 0);
            dueInCircle(mesh, t[0], t[1], t[2], t[1], 0);
            dueInCircle(mesh, t[0], t[1], t[2], t[2], 0);
        }
    }

    private static void inCircleInAnyOrder() {
        ExactMesh mesh = withVertices(0, 0, 4, 0, 4, 4, 0, 4, 0, 3, 0, 5, 2, 2, M, M);
        int[][] orders = {{0, 1, 2}, {0, 2, 1}, {1, 0, 2}, {1, 2, 0}, {2, 0, 1}, {2, 1, 0}};
        for (int[] o : orders) {
            dueInCircle(mesh, o[0], o[1], o[2], 3, 0);
            dueInCircle(mesh, o[0], o[1], o[2], 4, 1);
            dueInCircle(mesh, o[0], o[1], o[2], 5, -1);
            dueInCircle(mesh, o[0], o[1], o[2], 6, 1);
            dueInCircle(mesh, o[0], o[1], o[2], 7, -1);
        }
    }

    private static void inCircleOnLargestCircle() {
        ExactMesh mesh = round(200000);
        for (int a = 0; a < 12; a++) {
            for (int step = 1; step < 11; step++) {
                dueInCircle(mesh, a, (a + step) % 12, (a + 11) % 12, (a + 5) % 12, 0);
            }
        }
        ExactMesh corners = withVertices(M, M, -M, M, -M, -M, M, -M);
        for (int d = 0; d < 4; d++) {
            dueInCircle(corners, (d + 1) % 4, (d + 2) % 4, (d + 3) % 4, d, 0);
            dueInCircle(corners, (d + 3) % 4, (d + 2) % 4, (d + 1) % 4, d, 0);
        }
    }

    private static void inCircleByAHair() {
        // The circle through the corners passes between each of these points and its corner.
        ExactMesh corners = withVertices(M, M, -M, M, -M, -M, M, 1 - M, M - 1, -M, M, -M);
        dueInCircle(corners, 0, 1, 2, 3, 1);
        dueInCircle(corners, 2, 1, 0, 4, 1);
        dueInCircle(corners, 0, 1, 3, 5, -1);
        dueInCircle(corners, 4, 2, 1, 5, -1);
        ExactMesh round = withVertices(M, 0, 0, M, -M, 0, 600000, 800000, 600001, 800000, 599999, 800000, 600000, 800001);
        dueInCircle(round, 0, 1, 2, 3, 0);
        dueInCircle(round, 0, 1, 2, 4, -1);
        dueInCircle(round, 2, 1, 0, 5, 1);
        dueInCircle(round, 0, 2, 1, 6, -1);
        // A triangle of area 1/2 spanned over the whole square: the terms cancel all but 4 of 10^24.
        ExactMesh thin = withVertices(-M, -M, M, M - 1, 1 - M, 1 - M, 2 - M, 2 - M, M - 1, M - 2);
        dueInCircle(thin, 0, 1, 2, 3, -1);
        dueInCircle(thin, 1, 0, 2, 3, -1);
        dueInCircle(thin, 0, 1, 2, 4, 1);
        dueInCircle(thin, 2, 1, 0, 4, 1);
    }

    private static void inCircleByFar() {
        // What decides here is too large for a long.
        ExactMesh wide = withVertices(M, M, -M, M, -M, -M, 0, 0, 1, 0, 300000, 700000, 999999, 0, -500000, 123456, -999999, 777777);
        ExactMesh round = withVertices(M, 0, 0, M, -M, 0, M, M, -M, -M, M, -M, -M, M, 900000, 900000, 800001, -600001);
        for (int d = 3; d < 9; d++) {
            dueInCircle(wide, 0, 1, 2, d, 1);
            dueInCircle(wide, 1, 0, 2, d, 1);
            dueInCircle(round, 0, 1, 2, d, -1);
            dueInCircle(round, 2, 1, 0, d, -1);
        }
    }

    private static void inCircleWithoutVertex() {
        ExactMesh none = new ExactMesh();
        dueInCircle(none, 0, 0, 0, 0, 2);
        dueInCircle(none, 0, 1, 2, 3, 2);
        ExactMesh some = square();
        ExactMesh full = round(1);
        for (int i = 0; i < 17; i++) {
            int beyondSome = notBelow(4)[i];
            dueInCircle(some, beyondSome, 1, 2, 3, 2);
            dueInCircle(some, 0, beyondSome, 2, 3, 2);
            dueInCircle(some, 0, 1, beyondSome, 3, 2);
            dueInCircle(some, 0, 1, 2, beyondSome, 2);
            dueInCircle(some, beyondSome, 1, 2, beyondSome, 2);
            int beyondFull = notBelow(12)[i];
            dueInCircle(full, beyondFull, 10, 9, 11, 2);
            dueInCircle(full, 11, beyondFull, 9, 0, 2);
            dueInCircle(full, 11, 10, beyondFull, 0, 2);
            dueInCircle(full, 11, 10, 9, beyondFull, 2);
        }
        dueInCircle(full, 11, 10, 9, 0, 0);
    }

    private static void inCircleOnOneLine() {
        ExactMesh mesh = withVertices(-M, -M, M, M, 0, 0, 5, 6, 0, M, 0, -M);
        for (int d = 0; d < 6; d++) {
            dueInCircle(mesh, 0, 1, 2, d, 2);
            dueInCircle(mesh, 2, 1, 0, d, 2);
            dueInCircle(mesh, 4, 2, 5, d, 2);
            dueInCircle(mesh, 3, 3, 0, d, 2);
            dueInCircle(mesh, 3, 0, 3, d, 2);
            dueInCircle(mesh, 0, 3, 3, d, 2);
            dueInCircle(mesh, d, d, d, d, 2);
        }
        dueInCircle(mesh, 0, 1, 2, 6, 2);
    }

    private static void buildOfNothing() {
        boolean[] both = {false, true};
        for (boolean holes : both) {
            for (boolean outside : both) {
                ExactMesh mesh = new ExactMesh();
                dueBuild(mesh, holes, outside, 0);
                dueVertex(mesh, 0, 0, 0);
                dueBuild(mesh, holes, outside, 0);
                dueVertex(mesh, 1, 1, 1);
                dueBuild(mesh, holes, outside, 0);
                dueSegment(mesh, 0, 1, 0);
                dueBuild(mesh, holes, outside, 0);
                dueVertex(mesh, 2, 2, 2);
                dueHole(mesh, 0, 0, 1);
                dueBuild(mesh, holes, outside, 0);
                due("triangles()", mesh.triangles(), 0);
            }
        }
    }

    private static void buildOfThree() {
        ExactMesh least = withVertices(0, 0, 1, 0, 0, 1);
        dueBuild(least, false, false, 1);
        dueBuild(least, true, false, 1);
        dueBuild(least, false, true, 0);
        dueBuild(least, true, true, 0);
        addSegments(least, 0, 1, 1, 2, 2, 0);
        dueBuild(least, true, true, 1);
        ExactMesh largest = withVertices(-M, -M, M, -M, -M, M);
        dueBuild(largest, false, false, 1);
        ExactMesh thinnest = withVertices(-M, -M, M, M - 1, 1 - M, 1 - M);
        dueBuild(thinnest, false, false, 1);
        due("area()", thinnest.area(), 1);
    }

    private static void buildOfMost() {
        ExactMesh mesh = crowd();
        dueBuild(mesh, false, false, 19);
        addSegments(mesh, 0, 1, 1, 2, 2, 0);
        dueBuild(mesh, false, true, 19);
        dueHole(mesh, 50, 33, 1);
        dueBuild(mesh, true, true, 0);
        dueBuild(mesh, false, false, 19);
    }

    private static void buildOfFewest() {
        ExactMesh round = round(200000);
        dueBuild(round, false, false, 10);
        ExactMesh flat = withVertices(0, 0, 1, 0, 2, 0, 3, 0, 4, 0, 5, 0, 6, 0, 7, 0, 8, 0, 9, 0, 10, 0, 0, 1);
        dueBuild(flat, false, false, 10);
        for (int t = 0; t < 10; t++) {
            due("corner(" + t + ", 0)", flat.corner(t, 0), t);
            due("corner(" + t + ", 1)", flat.corner(t, 1), t + 1);
            due("corner(" + t + ", 2)", flat.corner(t, 2), 11);
        }
    }

    private static void buildTakesWhatIsThereNow() {
        ExactMesh mesh = new ExactMesh();
        dueBuild(mesh, false, false, 0);
        dueVertex(mesh, 0, 0, 0);
        dueVertex(mesh, 4, 0, 1);
        dueVertex(mesh, 4, 4, 2);
        dueBuild(mesh, false, false, 1);
        dueVertex(mesh, 0, 4, 3);
        due("triangles()", mesh.triangles(), 1);
        dueBuild(mesh, false, false, 2);
        due("corner(1, 1)", mesh.corner(1, 1), 2);
        dueSegment(mesh, 1, 3, 0);
        due("corner(1, 0)", mesh.corner(1, 0), 0);
        dueBuild(mesh, false, false, 2);
        due("corner(1, 0)", mesh.corner(1, 0), 1);
        dueVertex(mesh, 3, 3, 4);
        dueBuild(mesh, false, false, 4);
    }

    private static void buildTakesHolesThatAreThereNow() {
        ExactMesh mesh = strip();
        addSegments(mesh, 1, 7, 2, 8, 3, 9, 4, 10);
        dueBuild(mesh, true, false, 10);
        int[] places = {1, 9, 17};
        for (int i = 0; i < 3; i++) {
            dueHole(mesh, places[i], 2, i + 1);
            due("triangles()", mesh.triangles(), 10 - 2 * i);
            dueBuild(mesh, true, false, 8 - 2 * i);
        }
        due("locate(5, 2)", mesh.locate(5, 2), 1);
        due("locate(13, 2)", mesh.locate(13, 2), 3);
        dueBuild(mesh, false, false, 10);
    }

    private static void buildByEach() {
        ExactMesh mesh = strip();
        // Squares 1 and 2 are walled in, each by itself; square 0 and squares 3, 4 are open.
        addSegments(mesh, 1, 2, 2, 3, 7, 8, 8, 9, 1, 7, 2, 8, 3, 9);
        dueHole(mesh, 6, 1, 1);
        dueBuild(mesh, false, false, 10);
        dueBuild(mesh, true, false, 8);
        dueBuild(mesh, false, true, 4);
        dueBuild(mesh, true, true, 2);
        due("area()", mesh.area(), 32);
        dueLocate(mesh, 10, 2, 0);
        dueLocate(mesh, 6, 2, NONE);
        dueBuild(mesh, false, false, 10);
        due("area()", mesh.area(), 160);
    }

    private static void lastCallOfAll() {
        ExactMesh mesh = crowd();
        addSegments(mesh, 0, 1, 1, 2, 2, 0);
        for (int call = 16; call <= 511; call++) {
            dueBuild(mesh, call % 2 == 0, call % 3 != 0, 19);
        }
        due("call 512: area()", mesh.area(), 9000);
        ExactMesh refused = new ExactMesh();
        for (int call = 1; call <= 511; call++) {
            dueVertex(refused, M + call, 0, -2);
        }
        dueVertex(refused, M, 0, 0);
    }

    private static void trianglesBeforeBuild() {
        ExactMesh mesh = crowd();
        due("triangles()", mesh.triangles(), 0);
        addSegments(mesh, 0, 1, 1, 2, 2, 0);
        dueHole(mesh, 50, 50, 1);
        due("triangles()", mesh.triangles(), 0);
        due("corner(0, 0)", mesh.corner(0, 0), NONE);
        due("across(0, 0)", mesh.across(0, 0), NONE);
        due("fixed(0, 0)", mesh.fixed(0, 0), false);
        due("degree(0)", mesh.degree(0), 0);
        due("degree(11)", mesh.degree(11), 0);
        due("area()", mesh.area(), 0);
        due("border()", mesh.border(), 0);
        dueLocate(mesh, 50, 50, NONE);
        dueLocate(mesh, 0, 0, NONE);
    }

    private static void trianglesAfterBuild() {
        ExactMesh mesh = crowd();
        dueBuild(mesh, false, false, 19);
        due("triangles()", mesh.triangles(), 19);
        dueBuild(mesh, false, true, 0);
        due("triangles()", mesh.triangles(), 0);
        dueBuild(mesh, true, false, 19);
        due("triangles()", mesh.triangles(), 19);
        ExactMesh one = withVertices(0, 0, 1, 0, 0, 1);
        dueBuild(one, false, false, 1);
        due("triangles()", one.triangles(), 1);
    }

    private static void cornerFirstAndLast() {
        ExactMesh mesh = strip();
        dueBuild(mesh, false, false, 10);
        int[][] want = {{0, 1, 7}, {0, 7, 6}, {4, 5, 11}, {4, 11, 10}};
        int[] numbers = {0, 1, 8, 9};
        for (int i = 0; i < 4; i++) {
            for (int k = 0; k < 3; k++) {
                due("corner(" + numbers[i] + ", " + k + ")", mesh.corner(numbers[i], k), want[i][k]);
            }
        }
        ExactMesh most = crowd();
        dueBuild(most, false, false, 19);
        due("corner(0, 0)", most.corner(0, 0), 0);
        due("corner(0, 1)", most.corner(0, 1), 1);
        due("corner(0, 2)", most.corner(0, 2), 3);
        for (int k = 0; k < 3; k++) {
            due("a corner(18, " + k + ")", most.corner(18, k) >= 0 && most.corner(18, k) < 12, true);
        }
    }

    private static void cornerWithoutTriangle() {
        ExactMesh none = square();
        ExactMesh one = withVertices(0, 0, 1, 0, 0, 1);
        ExactMesh most = crowd();
        dueBuild(one, false, false, 1);
        dueBuild(most, false, false, 19);
        for (int k = 0; k < 3; k++) {
            for (int i = 0; i < 17; i++) {
                due("corner(" + notBelow(0)[i] + ", " + k + ")", none.corner(notBelow(0)[i], k), NONE);
                due("corner(" + notBelow(1)[i] + ", " + k + ")", one.corner(notBelow(1)[i], k), NONE);
                due("corner(" + notBelow(19)[i] + ", " + k + ")", most.corner(notBelow(19)[i], k), NONE);
            }
        }
        dueBuild(most, false, true, 0);
        due("corner(0, 0) of what is carved away", most.corner(0, 0), NONE);
        due("corner(18, 0) of what is carved away", most.corner(18, 0), NONE);
    }

    private static void cornerWithoutSuchK() {
        ExactMesh mesh = crowd();
        dueBuild(mesh, false, false, 19);
        for (int k : notBelow(3)) {
            due("corner(0, " + k + ")", mesh.corner(0, k), NONE);
            due("corner(7, " + k + ")", mesh.corner(7, k), NONE);
            due("corner(18, " + k + ")", mesh.corner(18, k), NONE);
            due("corner(19, " + k + ")", mesh.corner(19, k), NONE);
            due("corner(-1, " + k + ")", mesh.corner(-1, k), NONE);
        }
    }

    private static void acrossFirstAndLast() {
        ExactMesh mesh = strip();
        addSegments(mesh, 0, 7, 1, 7);
        dueBuild(mesh, false, false, 10);
        for (int i = 0; i < 5; i++) {
            due("across(" + 2 * i + ", 0)", mesh.across(2 * i, 0), NONE);
            due("across(" + 2 * i + ", 1)", mesh.across(2 * i, 1), i < 4 ? 2 * i + 3 : NONE);
            due("across(" + 2 * i + ", 2)", mesh.across(2 * i, 2), 2 * i + 1);
            due("across(" + (2 * i + 1) + ", 0)", mesh.across(2 * i + 1, 0), 2 * i);
            due("across(" + (2 * i + 1) + ", 1)", mesh.across(2 * i + 1, 1), NONE);
            due("across(" + (2 * i + 1) + ", 2)", mesh.across(2 * i + 1, 2), i > 0 ? 2 * i - 2 : NONE);
        }
        ExactMesh most = crowd();
        dueBuild(most, false, false, 19);
        for (int t = 0; t < 19; t++) {
            for (int k = 0; k < 3; k++) {
                int other = most.across(t, k);
                boolean back = most.across(other, 0) == t || most.across(other, 1) == t || most.across(other, 2) == t;
                due("from across(" + t + ", " + k + ") back", other == NONE || back, true);
            }
        }
    }

    private static void acrossNothing() {
        ExactMesh one = withVertices(0, 0, 1, 0, 0, 1);
        dueBuild(one, false, false, 1);
        for (int k = 0; k < 3; k++) {
            due("across(0, " + k + ")", one.across(0, k), NONE);
        }
        // Carving takes the triangle on the other side away; the segment alone does not.
        ExactMesh carved = square();
        addSegments(carved, 0, 2);
        dueHole(carved, 3, 1, 1);
        dueBuild(carved, false, false, 2);
        due("across(1, 0)", carved.across(1, 0), 0);
        due("across(0, 2)", carved.across(0, 2), 1);
        dueBuild(carved, true, false, 1);
        for (int k = 0; k < 3; k++) {
            due("across(0, " + k + ")", carved.across(0, k), NONE);
        }
    }

    private static void acrossWithoutTriangle() {
        ExactMesh none = square();
        ExactMesh some = square();
        ExactMesh most = crowd();
        dueBuild(some, false, false, 2);
        dueBuild(most, false, false, 19);
        for (int k = 0; k < 3; k++) {
            for (int i = 0; i < 17; i++) {
                due("across(" + notBelow(0)[i] + ", " + k + ")", none.across(notBelow(0)[i], k), NONE);
                due("across(" + notBelow(2)[i] + ", " + k + ")", some.across(notBelow(2)[i], k), NONE);
                due("across(" + notBelow(19)[i] + ", " + k + ")", most.across(notBelow(19)[i], k), NONE);
            }
        }
        dueBuild(some, false, true, 0);
        due("across(0, 2) of what is carved away", some.across(0, 2), NONE);
    }

    private static void acrossWithoutSuchK() {
        ExactMesh mesh = crowd();
        dueBuild(mesh, false, false, 19);
        for (int k : notBelow(3)) {
            due("across(0, " + k + ")", mesh.across(0, k), NONE);
            due("across(9, " + k + ")", mesh.across(9, k), NONE);
            due("across(18, " + k + ")", mesh.across(18, k), NONE);
            due("across(-1, " + k + ")", mesh.across(-1, k), NONE);
        }
    }

    private static void fixedInLatestBuild() {
        ExactMesh mesh = square();
        addSegments(mesh, 2, 0, 0, 1);
        due("fixed(0, 0)", mesh.fixed(0, 0), false);
        dueBuild(mesh, false, false, 2);
        dueFixed(mesh, 0, true, false, true);
        dueFixed(mesh, 1, true, false, false);
        dueSegment(mesh, 1, 2, 2);
        dueSegment(mesh, 3, 2, 3);
        dueFixed(mesh, 0, true, false, true);
        dueFixed(mesh, 1, true, false, false);
        dueBuild(mesh, false, false, 2);
        dueFixed(mesh, 0, true, true, true);
        dueFixed(mesh, 1, true, true, false);
        dueSegment(mesh, 0, 3, 4);
        dueBuild(mesh, true, true, 2);
        dueFixed(mesh, 1, true, true, true);
    }

    private static void dueFixed(ExactMesh mesh, int t, boolean side0, boolean side1, boolean side2) {
        due("fixed(" + t + ", 0)", mesh.fixed(t, 0), side0);
        due("fixed(" + t + ", 1)", mesh.fixed(t, 1), side1);
        due("fixed(" + t + ", 2)", mesh.fixed(t, 2), side2);
    }

    /** A triangle with a segment for each side: a question that is not refused answers true. */
    private static ExactMesh walledTriangle() {
        ExactMesh mesh = withVertices(0, 0, 1, 0, 0, 1);
        addSegments(mesh, 0, 1, 1, 2, 2, 0);
        dueBuild(mesh, true, true, 1);
        dueFixed(mesh, 0, true, true, true);
        return mesh;
    }

    private static void fixedWithoutTriangle() {
        ExactMesh mesh = walledTriangle();
        for (int k = 0; k < 3; k++) {
            for (int t : notBelow(1)) {
                due("fixed(" + t + ", " + k + ")", mesh.fixed(t, k), false);
            }
        }
        dueHole(mesh, 0, 0, 1);
        dueBuild(mesh, true, false, 0);
        dueFixed(mesh, 0, false, false, false);
        ExactMesh most = crowd();
        addSegments(most, 0, 1, 1, 2, 2, 0);
        dueBuild(most, false, false, 19);
        for (int t : notBelow(19)) {
            dueFixed(most, t, false, false, false);
        }
    }

    private static void fixedWithoutSuchK() {
        ExactMesh mesh = walledTriangle();
        for (int k : notBelow(3)) {
            due("fixed(0, " + k + ")", mesh.fixed(0, k), false);
            due("fixed(1, " + k + ")", mesh.fixed(1, k), false);
            due("fixed(-1, " + k + ")", mesh.fixed(-1, k), false);
        }
    }

    private static void locateLeastNumber() {
        ExactMesh mesh = strip();
        dueBuild(mesh, false, false, 10);
        // Vertex 1 is a corner of triangles 0, 2 and 3; vertex 7 of 0, 1 and 3; vertex 10 of 6, 7 and 9.
        dueLocate(mesh, 4, 0, 0);
        dueLocate(mesh, 4, 4, 0);
        dueLocate(mesh, 16, 4, 6);
        dueLocate(mesh, 20, 0, 8);
        dueLocate(mesh, 0, 4, 1);
        // On sides between 0 and 3, 2 and 3, 8 and 9.
        dueLocate(mesh, 4, 2, 0);
        dueLocate(mesh, 6, 2, 2);
        dueLocate(mesh, 18, 2, 8);
    }

    private static void locateOnSideOrCorner() {
        ExactMesh mesh = withVertices(0, 0, 6, 0, 0, 6);
        dueBuild(mesh, false, false, 1);
        int[][] in = {{0, 0}, {6, 0}, {0, 6}, {3, 0}, {3, 3}, {0, 3}, {1, 5}, {5, 1}, {1, 1}, {2, 3}};
        for (int[] p : in) {
            dueLocate(mesh, p[0], p[1], 0);
        }
        int[][] beside = {{-1, 0}, {0, -1}, {-1, -1}, {7, 0}, {6, 1}, {7, -1}, {0, 7}, {1, 6}, {-1, 7}, {3, 4}, {4, 3}, {-1, 3}, {3, -1}};
        for (int[] p : beside) {
            dueLocate(mesh, p[0], p[1], NONE);
        }
    }

    private static void locateNothing() {
        ExactMesh mesh = square();
        dueLocate(mesh, 1, 1, NONE);
        dueLocate(mesh, 0, 0, NONE);
        addSegments(mesh, 0, 2);
        dueHole(mesh, 3, 1, 1);
        dueBuild(mesh, true, false, 1);
        dueLocate(mesh, 3, 1, NONE);
        dueLocate(mesh, 4, 0, NONE);
        dueLocate(mesh, 2, 2, 0);
        dueHole(mesh, 1, 3, 2);
        dueBuild(mesh, true, false, 0);
        dueLocate(mesh, 2, 2, NONE);
        dueLocate(mesh, 0, 0, NONE);
    }

    private static void locateAnyInts() {
        ExactMesh mesh = withVertices(-M, -M, M, -M, M, M, -M, M);
        dueBuild(mesh, false, false, 2);
        int[] far = {LEAST, LEAST + 1, -2 * M, -M - 1, M + 1, 2 * M, LARGEST - 1, LARGEST};
        int[] any = {LEAST, LEAST + 1, -M - 1, -M, 0, M, M + 1, LARGEST - 1, LARGEST};
        for (int x : far) {
            for (int y : any) {
                dueLocate(mesh, x, y, NONE);
                dueLocate(mesh, y, x, NONE);
            }
        }
        dueLocate(mesh, M, M, 0);
        dueLocate(mesh, -M, M, 1);
        dueLocate(mesh, M, -M, 0);
        dueLocate(mesh, -M, -M, 0);
        // The other way around, so that each side has faced each far point.
        ExactMesh turned = withVertices(0, -M, M, 0, 0, M, -M, 0);
        dueBuild(turned, false, false, 2);
        for (int x : far) {
            for (int y : any) {
                dueLocate(turned, x, y, NONE);
                dueLocate(turned, y, x, NONE);
            }
        }
    }

    private static void locateWhereIntsWrap() {
        // Each triangle would hold the far point if its distance from the first corner wrapped around.
        int[][] triangles = {{-1, -M, M, M}, {M, -1, -M, M}, {1, M, -M, -M}, {-M, 1, M, -M}};
        int[][] far = {{LARGEST, 0}, {0, LARGEST}, {LEAST, 0}, {0, LEAST}};
        for (int i = 0; i < 4; i++) {
            ExactMesh mesh = withVertices(triangles[i][0], triangles[i][1], triangles[i][2], triangles[i][3], 0, 0);
            dueBuild(mesh, false, false, 1);
            for (int[] p : far) {
                dueLocate(mesh, p[0], p[1], NONE);
            }
            dueLocate(mesh, 0, 0, 0);
        }
    }

    private static void locateByAHair() {
        ExactMesh mesh = withVertices(-M, -M, M, M - 1, -M, M, M, -M);
        addSegments(mesh, 0, 1);
        dueBuild(mesh, false, false, 2);
        due("corner(0, 2)", mesh.corner(0, 2), 2);
        dueLocate(mesh, 1 - M, 1 - M, 0);
        dueLocate(mesh, 999999, 999998, 1);
        dueLocate(mesh, 0, 0, 0);
        dueLocate(mesh, 0, -1, 1);
        dueLocate(mesh, M, M, NONE);
        // The upper side falls from (-M, M) to (M, M - 1).
        dueLocate(mesh, 1 - M, M, NONE);
        dueLocate(mesh, 1 - M, M - 1, 0);
        dueLocate(mesh, M - 1, M - 1, 0);
    }

    private static void degreeLeastAndLargest() {
        ExactMesh round = round(1);
        dueBuild(round, false, false, 10);
        due("degree(0)", round.degree(0), 10);
        due("degree(1)", round.degree(1), 1);
        due("degree(2)", round.degree(2), 2);
        due("degree(11)", round.degree(11), 1);
        // A hub as the last of twelve: eleven triangles around it.
        ExactMesh wheel = withVertices(9, 0, 8, 5, 4, 8, -1, 9, -6, 7, -9, 3, -9, -3, -6, -7, -1, -9, 4, -8, 8, -5, 0, 0);
        dueBuild(wheel, false, false, 11);
        due("degree(11)", wheel.degree(11), 11);
        due("degree(0)", wheel.degree(0), 2);
        ExactMesh carved = square();
        dueBuild(carved, false, true, 0);
        due("degree(0)", carved.degree(0), 0);
        addSegments(carved, 0, 2);
        dueHole(carved, 3, 1, 1);
        dueBuild(carved, true, false, 1);
        due("degree(0)", carved.degree(0), 1);
        due("degree(1)", carved.degree(1), 0);
        due("degree(3)", carved.degree(3), 1);
    }

    private static void degreeOfNewVertex() {
        ExactMesh mesh = square();
        for (int v = 0; v < 4; v++) {
            due("degree(" + v + ")", mesh.degree(v), 0);
        }
        dueBuild(mesh, false, false, 2);
        dueVertex(mesh, 1, 2, 4);
        due("degree(4)", mesh.degree(4), 0);
        due("degree(0)", mesh.degree(0), 2);
        due("degree(5)", mesh.degree(5), NONE);
        dueBuild(mesh, false, false, 4);
        due("degree(4)", mesh.degree(4), 4);
    }

    private static void degreeWithoutVertex() {
        ExactMesh none = new ExactMesh();
        ExactMesh some = square();
        ExactMesh full = round(1);
        dueBuild(some, false, false, 2);
        dueBuild(full, false, false, 10);
        for (int i = 0; i < 17; i++) {
            due("degree(" + notBelow(0)[i] + ")", none.degree(notBelow(0)[i]), NONE);
            due("degree(" + notBelow(4)[i] + ")", some.degree(notBelow(4)[i]), NONE);
            due("degree(" + notBelow(12)[i] + ")", full.degree(notBelow(12)[i]), NONE);
        }
    }

    private static void placeLeastAndLargest() {
        ExactMesh mesh = withVertices(-M, M, M, -M, 0, 1, 1, 0, 4, 4, 5, 5, 6, 6, 7, 7, 8, 8, 9, 9, 10, 10, -3, 8);
        int[][] want = {{-M, M}, {M, -M}, {0, 1}, {1, 0}};
        for (int v = 0; v < 4; v++) {
            due("place(" + v + ", 0)", mesh.place(v, 0), want[v][0]);
            due("place(" + v + ", 1)", mesh.place(v, 1), want[v][1]);
        }
        due("place(11, 0)", mesh.place(11, 0), -3);
        due("place(11, 1)", mesh.place(11, 1), 8);
    }

    private static void placeWithoutVertex() {
        ExactMesh none = new ExactMesh();
        ExactMesh some = withVertices(5, 6, 7, 8);
        ExactMesh full = withVertices(1, 9, 2, 9, 3, 9, 4, 9, 5, 9, 6, 9, 7, 9, 8, 9, 9, 9, 10, 9, 11, 9, 12, 9);
        for (int k = 0; k < 2; k++) {
            for (int i = 0; i < 17; i++) {
                due("place(" + notBelow(0)[i] + ", " + k + ")", none.place(notBelow(0)[i], k), 0);
                due("place(" + notBelow(2)[i] + ", " + k + ")", some.place(notBelow(2)[i], k), 0);
                due("place(" + notBelow(12)[i] + ", " + k + ")", full.place(notBelow(12)[i], k), 0);
            }
        }
    }

    private static void placeWithoutSuchK() {
        ExactMesh mesh = withVertices(5, 6, 7, 8);
        for (int k : notBelow(2)) {
            due("place(0, " + k + ")", mesh.place(0, k), 0);
            due("place(1, " + k + ")", mesh.place(1, k), 0);
            due("place(2, " + k + ")", mesh.place(2, k), 0);
            due("place(-1, " + k + ")", mesh.place(-1, k), 0);
        }
    }

    private static void areaLeastAndLargest() {
        ExactMesh mesh = withVertices(-M, -M, M, -M, M, M, -M, M);
        due("area()", mesh.area(), 0);
        dueBuild(mesh, false, false, 2);
        due("area()", mesh.area(), 8000000000000L);
        ExactMesh least = withVertices(0, 0, 1, 0, 0, 1);
        dueBuild(least, false, false, 1);
        due("area()", least.area(), 1);
        ExactMesh line = withVertices(-M, -M, 0, 0, M, M);
        dueBuild(line, false, false, 0);
        due("area()", line.area(), 0);
        ExactMesh most = crowd();
        dueBuild(most, false, false, 19);
        due("area()", most.area(), 9000);
    }

    private static void areaAsCarved() {
        ExactMesh mesh = withVertices(-M, -M, M, -M, M, M, -M, M);
        addSegments(mesh, 0, 2);
        dueHole(mesh, 0, -1, 1);
        dueBuild(mesh, true, false, 1);
        due("area()", mesh.area(), 4000000000000L);
        dueBuild(mesh, false, true, 0);
        due("area()", mesh.area(), 0);
        dueBuild(mesh, false, false, 2);
        due("area()", mesh.area(), 8000000000000L);
    }

    private static void borderLeastAndLargest() {
        ExactMesh mesh = strip();
        due("border()", mesh.border(), 0);
        dueBuild(mesh, false, false, 10);
        due("border()", mesh.border(), 12);
        dueBuild(mesh, false, true, 0);
        due("border()", mesh.border(), 0);
        ExactMesh one = withVertices(0, 0, 1, 0, 0, 1);
        dueBuild(one, false, false, 1);
        due("border()", one.border(), 3);
        ExactMesh most = crowd();
        dueBuild(most, false, false, 19);
        due("border()", most.border(), 3);
    }

    private static void borderAsCarved() {
        ExactMesh mesh = strip();
        addSegments(mesh, 1, 7, 2, 8, 3, 9, 4, 10);
        dueBuild(mesh, false, false, 10);
        // A segment between two triangles of the mesh is no border.
        due("border()", mesh.border(), 12);
        dueHole(mesh, 6, 1, 1);
        dueHole(mesh, 14, 1, 2);
        dueBuild(mesh, true, false, 6);
        // Three squares, apart.
        due("border()", mesh.border(), 12);
        dueHole(mesh, 10, 1, 3);
        dueBuild(mesh, true, false, 4);
        due("border()", mesh.border(), 8);
    }

    private static void verticesNoneToTwelve() {
        ExactMesh mesh = new ExactMesh();
        for (int n = 0; n < 12; n++) {
            due("vertices()", mesh.vertices(), n);
            dueVertex(mesh, n, n * n, n);
            dueVertex(mesh, n, n * n, n);
            dueHole(mesh, M + 1, 0, -2);
            dueVertex(mesh, M + 1, 0, -2);
        }
        due("vertices()", mesh.vertices(), 12);
        dueVertex(mesh, 12, 144, -3);
        dueBuild(mesh, false, true, 0);
        due("vertices()", mesh.vertices(), 12);
    }

    private static void segmentsNoneToTen() {
        ExactMesh mesh = new ExactMesh();
        due("segments()", mesh.segments(), 0);
        dueSegment(mesh, 0, 1, -2);
        due("segments()", mesh.segments(), 0);
        ExactMesh full = fan();
        due("segments()", full.segments(), 10);
        dueSegment(full, 0, 11, -3);
        dueSegment(full, 11, 10, -3);
        dueBuild(full, false, true, 0);
        due("segments()", full.segments(), 10);
    }
}
