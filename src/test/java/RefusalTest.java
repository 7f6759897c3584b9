import java.util.ArrayList;
import java.util.List;
import java.util.function.Supplier;
import java.util.function.ToIntFunction;

/**
 * Each refusal alone, those that can hold at once, and that a refused call has changed nothing: two objects
 * are made alike, one of them is asked what is refused, and both must then tell the same, as they stand and
 * after whatever comes next.
 */
public final class RefusalTest {
    private static final int LEAST = Integer.MIN_VALUE;
    private static final int LARGEST = Integer.MAX_VALUE;
    private static final int M = 1000000;

    private static final List<ToIntFunction<ExactMesh>> NEXT = List.of(
        m -> 0,
        m -> m.build(false, false),
        m -> m.build(true, false),
        m -> m.build(false, true),
        m -> m.build(true, true),
        m -> 100 * m.vertex(1, 3) + m.build(false, false),
        m -> 100 * m.segment(0, 4) + m.build(true, false),
        m -> 100 * m.segment(0, 6) + m.build(false, false),
        m -> 100 * m.hole(1, 1) + m.build(true, false),
        m -> 10000 * m.hole(-1, -1) + 100 * m.hole(-1, -1) + m.hole(-1, -1));

    private static int wrong = 0;
    private static String sentence = "";

    public static void main(String[] args) {
        refuseVertices();
        refuseVerticesForSeveralReasons();
        refuseSegments();
        refuseSegmentsForSeveralReasons();
        refuseHoles();
        answerWithoutMaking();
        System.out.println(wrong == 0 ? "all answers are as due" : wrong + " answers are not as due");
        if (wrong != 0) {
            System.exit(1);
        }
    }

    private static void refuseVertices() {
        refuse("vertex: -2, x too large", RefusalTest::some, -2, m -> m.vertex(M + 1, 0));
        refuse("vertex: -2, x too small", RefusalTest::some, -2, m -> m.vertex(-M - 1, 0));
        refuse("vertex: -2, y too large", RefusalTest::some, -2, m -> m.vertex(0, M + 1));
        refuse("vertex: -2, y too small", RefusalTest::some, -2, m -> m.vertex(0, -M - 1));
        refuse("vertex: -2, both", RefusalTest::some, -2, m -> m.vertex(LEAST, LARGEST));
        refuse("vertex: -2, nothing made yet", ExactMesh::new, -2, m -> m.vertex(M + 1, 0));
        refuse("vertex: -3", RefusalTest::strip, -3, m -> m.vertex(M, M));
        refuse("vertex: -3", RefusalTest::full, -3, m -> m.vertex(1, 1));
        refuse("vertex: -4", RefusalTest::some, -4, m -> m.vertex(8, 2));
        refuse("vertex: -4, a segment made since the build", RefusalTest::some, -4, m -> m.vertex(10, 1));
    }

    private static void refuseVerticesForSeveralReasons() {
        refuse("vertex: -2 before -3", RefusalTest::full, -2, m -> m.vertex(M + 1, 0));
        refuse("vertex: -2 before -3", RefusalTest::full, -2, m -> m.vertex(0, LEAST));
        refuse("vertex: -3 before -4", RefusalTest::full, -3, m -> m.vertex(8, 2));
        refuse("vertex: -2 on a segment's line, beyond its end", RefusalTest::longSegment, -2, m -> m.vertex(M + 1, M + 1));
    }

    private static void refuseSegments() {
        refuse("segment: -2, no vertex a", RefusalTest::some, -2, m -> m.segment(-1, 0));
        refuse("segment: -2, no vertex a", RefusalTest::some, -2, m -> m.segment(11, 0));
        refuse("segment: -2, no vertex b", RefusalTest::some, -2, m -> m.segment(0, -1));
        refuse("segment: -2, no vertex b", RefusalTest::some, -2, m -> m.segment(0, 11));
        refuse("segment: -2, neither", RefusalTest::some, -2, m -> m.segment(LEAST, LARGEST));
        refuse("segment: -2, both the same", RefusalTest::some, -2, m -> m.segment(3, 3));
        refuse("segment: -2, both the same and no vertex", RefusalTest::some, -2, m -> m.segment(11, 11));
        refuse("segment: -2, nothing made yet", ExactMesh::new, -2, m -> m.segment(0, 1));
        refuse("segment: -3, there already", RefusalTest::some, -3, m -> m.segment(2, 6));
        refuse("segment: -3, there the other way", RefusalTest::some, -3, m -> m.segment(6, 2));
        refuse("segment: -3, made since the build", RefusalTest::some, -3, m -> m.segment(9, 2));
        refuse("segment: -3, 10 are there", RefusalTest::full, -3, m -> m.segment(5, 11));
        refuse("segment: -4", RefusalTest::some, -4, m -> m.segment(0, 5));
        refuse("segment: -4, a vertex made since the build", RefusalTest::some, -4, m -> m.segment(7, 6));
        refuse("segment: -5", RefusalTest::some, -5, m -> m.segment(1, 7));
        refuse("segment: -5, a segment made since the build", RefusalTest::some, -5, m -> m.segment(3, 6));
    }

    private static void refuseSegmentsForSeveralReasons() {
        refuse("segment: -2 before -3", RefusalTest::full, -2, m -> m.segment(0, 12));
        refuse("segment: -2 before -3", RefusalTest::full, -2, m -> m.segment(-1, 0));
        refuse("segment: -2 before -3", RefusalTest::full, -2, m -> m.segment(4, 4));
        refuse("segment: -3 for both reasons", RefusalTest::full, -3, m -> m.segment(2, 8));
        refuse("segment: -3 for both reasons", RefusalTest::full, -3, m -> m.segment(8, 2));
        refuse("segment: -3 before -4", RefusalTest::full, -3, m -> m.segment(6, 8));
        refuse("segment: -3 before -5", RefusalTest::full, -3, m -> m.segment(1, 9));
        refuse("segment: -3 before -4 and -5", RefusalTest::crossWithTen, -3, m -> m.segment(0, 1));
        refuse("segment: -4 before -5", RefusalTest::cross, -4, m -> m.segment(0, 1));
        refuse("segment: -4 before -5", RefusalTest::cross, -4, m -> m.segment(1, 0));
        refuse("segment: -4 before -5, along a segment", RefusalTest::some, -4, m -> m.segment(0, 3));
    }

    private static void refuseHoles() {
        refuse("hole: -2, x too large", RefusalTest::some, -2, m -> m.hole(M + 1, 0));
        refuse("hole: -2, x too small", RefusalTest::some, -2, m -> m.hole(-M - 1, 0));
        refuse("hole: -2, y too large", RefusalTest::some, -2, m -> m.hole(0, M + 1));
        refuse("hole: -2, y too small", RefusalTest::some, -2, m -> m.hole(0, -M - 1));
        refuse("hole: -2, both", RefusalTest::some, -2, m -> m.hole(LARGEST, LEAST));
        refuse("hole: -2, nothing made yet", ExactMesh::new, -2, m -> m.hole(M + 1, 0));
        refuse("hole: -3", RefusalTest::full, -3, m -> m.hole(18, 1));
        refuse("hole: -3, at one that is there", RefusalTest::full, -3, m -> m.hole(6, 1));
        refuse("hole: -2 before -3", RefusalTest::full, -2, m -> m.hole(M + 1, 0));
        refuse("hole: -2 before -3", RefusalTest::full, -2, m -> m.hole(0, -M - 1));
    }

    private static void answerWithoutMaking() {
        refuse("vertex: nothing is made", RefusalTest::some, 2, m -> m.vertex(8, 0));
        refuse("vertex: nothing is made", RefusalTest::some, 10, m -> m.vertex(10, 4));
        refuse("vertex: nothing is made when 12 are there", RefusalTest::full, 11, m -> m.vertex(20, 4));
        refuse("turn: no vertex", RefusalTest::some, 2, m -> m.turn(0, 11, 1));
        refuse("inCircle: no vertex", RefusalTest::some, 2, m -> m.inCircle(0, 1, 5, -1));
        refuse("inCircle: on one line", RefusalTest::some, 2, m -> m.inCircle(0, 1, 2, 4));
        refuse("corner: no triangle", RefusalTest::some, -1, m -> m.corner(6, 0));
        refuse("across: no such k", RefusalTest::some, -1, m -> m.across(0, 3));
        refuse("fixed: no triangle", RefusalTest::some, 0, m -> m.fixed(-1, 0) ? 1 : 0);
        refuse("locate: nowhere", RefusalTest::some, -1, m -> m.locate(LEAST, LARGEST));
        refuse("degree: no vertex", RefusalTest::some, -1, m -> m.degree(11));
        refuse("place: no vertex", RefusalTest::some, 0, m -> m.place(11, 0));
    }

    private static void refuse(String words, Supplier<ExactMesh> maker, int want, ToIntFunction<ExactMesh> call) {
        for (int next = 0; next < NEXT.size(); next++) {
            ExactMesh asked = maker.get();
            ExactMesh spared = maker.get();
            sentence = words;
            for (int times = 0; times < 3; times++) {
                due("the call", call.applyAsInt(asked), want);
            }
            due("what comes next (" + next + ")", NEXT.get(next).applyAsInt(asked), NEXT.get(next).applyAsInt(spared));
            dueSame("after that (" + next + "), ", allThatIsTold(asked), allThatIsTold(spared));
        }
    }

    private static void due(String what, long got, long want) {
        if (got != want) {
            wrong++;
            System.out.println(sentence + ": " + what + " answered " + got + ", due is " + want);
        }
    }

    private static void dueSame(String when, List<Long> got, List<Long> want) {
        due(when + "the number of answers", got.size(), want.size());
        for (int i = 0; i < Math.min(got.size(), want.size()); i++) {
            due(when + "question " + i, got.get(i), want.get(i));
        }
    }

    private static List<Long> allThatIsTold(ExactMesh mesh) {
        List<Long> told = new ArrayList<>();
        told.add((long) mesh.vertices());
        told.add((long) mesh.segments());
        told.add((long) mesh.triangles());
        told.add((long) mesh.border());
        told.add(mesh.area());
        for (int v = 0; v <= 12; v++) {
            told.add((long) mesh.place(v, 0));
            told.add((long) mesh.place(v, 1));
            told.add((long) mesh.degree(v));
            told.add((long) mesh.turn(v, 0, 11 - v));
            told.add((long) mesh.inCircle(v, 0, 4, 11 - v));
            told.add((long) mesh.locate(2 * v - 1, v % 4));
        }
        for (int t = 0; t <= mesh.triangles(); t++) {
            for (int k = 0; k < 3; k++) {
                told.add((long) mesh.corner(t, k));
                told.add((long) mesh.across(t, k));
                told.add(mesh.fixed(t, k) ? 1L : 0L);
            }
        }
        return told;
    }

    private static ExactMesh withVertices(int... places) {
        ExactMesh mesh = new ExactMesh();
        addVertices(mesh, places);
        return mesh;
    }

    private static void addVertices(ExactMesh mesh, int... places) {
        for (int i = 0; i < places.length; i += 2) {
            int next = mesh.vertices();
            due("vertex(" + places[i] + ", " + places[i + 1] + ")", mesh.vertex(places[i], places[i + 1]), next);
        }
    }

    private static void addSegments(ExactMesh mesh, int... ends) {
        for (int i = 0; i < ends.length; i += 2) {
            int next = mesh.segments();
            due("segment(" + ends[i] + ", " + ends[i + 1] + ")", mesh.segment(ends[i], ends[i + 1]), next);
        }
    }

    /**
     * Three squares side by side, the middle one walled in, the left one with a vertex in its middle, the
     * right one with a hole. Two vertices and a segment have been made since the build.
     */
    private static ExactMesh some() {
        ExactMesh mesh = withVertices(0, 0, 4, 0, 8, 0, 12, 0, 0, 4, 4, 4, 8, 4, 12, 4, 2, 2);
        addSegments(mesh, 1, 5, 2, 6, 1, 2, 5, 6);
        due("hole(10, 1)", mesh.hole(10, 1), 1);
        due("build(true, false)", mesh.build(true, false), 6);
        addVertices(mesh, 12, 2, 10, 4);
        addSegments(mesh, 2, 9);
        return mesh;
    }

    /** Twelve vertices and nothing else: five squares side by side. */
    private static ExactMesh strip() {
        ExactMesh mesh = withVertices(0, 0, 4, 0, 8, 0, 12, 0, 16, 0, 20, 0, 0, 4, 4, 4, 8, 4, 12, 4, 16, 4, 20, 4);
        due("build(false, false)", mesh.build(false, false), 10);
        return mesh;
    }

    /** As many vertices, segments and holes as there may be. */
    private static ExactMesh full() {
        ExactMesh mesh = strip();
        addSegments(mesh, 1, 7, 2, 8, 3, 9, 4, 10, 1, 2, 2, 3, 7, 8, 8, 9, 0, 6, 3, 4);
        due("hole(6, 1)", mesh.hole(6, 1), 1);
        due("hole(14, 1)", mesh.hole(14, 1), 2);
        due("hole(M, M)", mesh.hole(M, M), 3);
        due("build(true, false)", mesh.build(true, false), 6);
        return mesh;
    }

    private static ExactMesh longSegment() {
        ExactMesh mesh = withVertices(-M, -M, M, M, M, -M);
        addSegments(mesh, 0, 1);
        due("build(false, false)", mesh.build(false, false), 1);
        return mesh;
    }

    /** From vertex 0 to 1 one comes over vertex 2 and then across a segment. */
    private static ExactMesh cross() {
        ExactMesh mesh = withVertices(0, 0, 8, 0, 2, 0, 6, 2, 6, -2);
        addSegments(mesh, 3, 4);
        due("build(false, false)", mesh.build(false, false), 4);
        return mesh;
    }

    private static ExactMesh crossWithTen() {
        ExactMesh mesh = cross();
        addVertices(mesh, 0, 10, 2, 11, 4, 10, 6, 11, 8, 10, 10, 11, 12, 10);
        addSegments(mesh, 5, 6, 6, 7, 7, 8, 8, 9, 9, 10, 10, 11, 5, 7, 7, 9, 9, 11);
        due("segments()", mesh.segments(), 10);
        return mesh;
    }
}
