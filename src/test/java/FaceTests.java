import java.lang.reflect.Constructor;
import java.lang.reflect.Field;
import java.lang.reflect.Method;
import java.lang.reflect.Modifier;
import java.util.ArrayList;
import java.util.Arrays;
import java.util.Collections;
import java.util.List;

/** The public face is the document's, whole and without more. */
public final class FaceTests {
    private static final String[] FACE = {
        "public EdgeSweeps(int)",
        "public static final int EdgeSweeps.NONE",
        "public boolean EdgeSweeps.corner(int,long,long) throws java.lang.IndexOutOfBoundsException,"
                + "java.lang.IllegalStateException,java.lang.IllegalArgumentException",
        "public boolean EdgeSweeps.in(int,long,long) throws java.lang.IndexOutOfBoundsException",
        "public int EdgeSweeps.edge(int,int,int) throws java.lang.IndexOutOfBoundsException",
        "public int EdgeSweeps.netOf(int,int) throws java.lang.IndexOutOfBoundsException",
        "public int EdgeSweeps.nets(int) throws java.lang.IndexOutOfBoundsException",
        "public int EdgeSweeps.op(int,int,int) throws java.lang.IndexOutOfBoundsException,"
                + "java.lang.IllegalStateException,java.lang.IllegalArgumentException",
        "public int EdgeSweeps.polygon(int) throws java.lang.IndexOutOfBoundsException,"
                + "java.lang.IllegalStateException",
        "public int EdgeSweeps.shapes(int) throws java.lang.IndexOutOfBoundsException",
        "public int EdgeSweeps.size(int,long,boolean) throws java.lang.IndexOutOfBoundsException,"
                + "java.lang.IllegalStateException,java.lang.IllegalArgumentException",
        "public int EdgeSweeps.strips(int) throws java.lang.IndexOutOfBoundsException",
        "public int EdgeSweeps.touching(int,int,int) throws java.lang.IndexOutOfBoundsException",
        "public int EdgeSweeps.trapezoid(int,int,int) throws java.lang.IndexOutOfBoundsException",
        "public long EdgeSweeps.area2(int,int) throws java.lang.IndexOutOfBoundsException",
        "public long EdgeSweeps.at(int,int,int,int) throws java.lang.IndexOutOfBoundsException",
        "public void EdgeSweeps.clear()",
    };

    public static void main(String[] args) {
        Check check = new Check("FaceTests");
        check.yes("final", Modifier.isFinal(EdgeSweeps.class.getModifiers()));
        check.yes("public", Modifier.isPublic(EdgeSweeps.class.getModifiers()));
        List<String> seen = seenFromOutside();
        List<String> due = new ArrayList<>(Arrays.asList(FACE));
        Collections.sort(due);
        check.yes("the face is " + seen + ", due is " + due, seen.equals(due));
        for (Class<?> inside : EdgeSweeps.class.getDeclaredClasses()) {
            check.yes(inside + " is static", Modifier.isStatic(inside.getModifiers()));
            check.no(inside + " is public", Modifier.isPublic(inside.getModifiers()));
        }
        check.end();
    }

    private static List<String> seenFromOutside() {
        List<String> seen = new ArrayList<>();
        for (Constructor<?> constructor : EdgeSweeps.class.getDeclaredConstructors()) {
            if (!Modifier.isPrivate(constructor.getModifiers())) {
                seen.add(constructor.toString());
            }
        }
        for (Field field : EdgeSweeps.class.getDeclaredFields()) {
            if (!Modifier.isPrivate(field.getModifiers())) {
                seen.add(field.toString());
            }
        }
        for (Method method : EdgeSweeps.class.getDeclaredMethods()) {
            if (!Modifier.isPrivate(method.getModifiers())) {
                seen.add(method.toString());
            }
        }
        Collections.sort(seen);
        return seen;
    }
}
