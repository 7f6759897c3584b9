import java.lang.reflect.Constructor;
import java.lang.reflect.Field;
import java.lang.reflect.Method;
import java.lang.reflect.Modifier;
import java.util.ArrayList;
import java.util.Collections;
import java.util.List;
import java.util.Set;
import java.util.TreeSet;

/** The class has the document's face and no other member that can be seen. */
public final class FaceTest {
    private static final String[] METHODS = {
        "int vertex(int,int)", "int segment(int,int)", "int hole(int,int)", "int turn(int,int,int)",
        "int inCircle(int,int,int,int)", "int build(boolean,boolean)", "int triangles()",
        "int corner(int,int)", "int across(int,int)", "boolean fixed(int,int)", "int locate(int,int)",
        "int degree(int)", "long area()", "int border()", "int vertices()", "int segments()",
        "int place(int,int)"};

    private static int wrong = 0;

    public static void main(String[] args) throws Exception {
        classIsPublicAndFinal();
        methodsAreTheDocuments();
        oneConstantIsSeen();
        oneConstructorIsSeen();
        classesInsideAreStaticAndHidden();
        System.out.println(wrong == 0 ? "the face is as due" : wrong + " faults in the face");
        if (wrong != 0) {
            System.exit(1);
        }
    }

    private static void due(String what, Object got, Object want) {
        if (!want.equals(got)) {
            wrong++;
            System.out.println(what + " is " + got + ", due is " + want);
        }
    }

    private static boolean isPrivate(int modifiers) {
        return Modifier.isPrivate(modifiers);
    }

    private static void classIsPublicAndFinal() {
        due("modifiers", Modifier.toString(ExactMesh.class.getModifiers()), "public final");
        due("superclass", ExactMesh.class.getSuperclass(), Object.class);
        due("interfaces", ExactMesh.class.getInterfaces().length, 0);
    }

    private static void methodsAreTheDocuments() {
        Set<String> names = new TreeSet<>();
        List<String> seen = new ArrayList<>();
        for (Method m : ExactMesh.class.getDeclaredMethods()) {
            if (!isPrivate(m.getModifiers())) {
                due("modifiers of " + m.getName(), Modifier.toString(m.getModifiers()), "public");
                seen.add(signature(m));
                names.add(m.getName());
            }
        }
        List<String> want = new ArrayList<>(List.of(METHODS));
        Collections.sort(want);
        Collections.sort(seen);
        due("the public methods", seen, want);
        for (Method m : ExactMesh.class.getDeclaredMethods()) {
            due(m + " bears a public one's name", isPrivate(m.getModifiers()) && names.contains(m.getName()), false);
        }
    }

    private static String signature(Method m) {
        StringBuilder text = new StringBuilder(m.getReturnType().getName());
        text.append(' ').append(m.getName()).append('(');
        for (int i = 0; i < m.getParameterCount(); i++) {
            text.append(i == 0 ? "" : ",").append(m.getParameterTypes()[i].getName());
        }
        return text.append(')').toString();
    }

    private static void oneConstantIsSeen() throws Exception {
        for (Field f : ExactMesh.class.getDeclaredFields()) {
            if (!isPrivate(f.getModifiers())) {
                due("the one field that is seen", f.getName(), "NONE");
                due("its modifiers", Modifier.toString(f.getModifiers()), "public static final");
                due("its type", f.getType(), int.class);
                due("its value", f.getInt(null), -1);
            }
        }
        due("NONE", ExactMesh.NONE, -1);
    }

    private static void oneConstructorIsSeen() {
        Constructor<?>[] all = ExactMesh.class.getDeclaredConstructors();
        due("how many constructors", all.length, 1);
        due("its parameters", all[0].getParameterCount(), 0);
        due("its modifiers", Modifier.toString(all[0].getModifiers()), "public");
    }

    private static void classesInsideAreStaticAndHidden() {
        for (Class<?> c : ExactMesh.class.getDeclaredClasses()) {
            due(c + " static", Modifier.isStatic(c.getModifiers()), true);
            due(c + " public", Modifier.isPublic(c.getModifiers()), false);
            due(c + " protected", Modifier.isProtected(c.getModifiers()), false);
        }
    }
}
