import java.lang.reflect.Constructor;
import java.lang.reflect.Field;
import java.lang.reflect.Method;
import java.lang.reflect.Modifier;
import java.util.Arrays;
import java.util.TreeSet;

/** The public face, and promise 1: a new object has nothing in it. */
public final class FaceTest {
    public static void main(String[] args) {
        constants();
        members();
        theClassItself();
        newObject();
        objectsAreApart();
        Due.end();
    }

    private static void constants() {
        Due.same("NONE", StructureMap.NONE, -1);
        Due.same("RANGE", StructureMap.RANGE, -2);
        Due.same("STATE", StructureMap.STATE, -3);
        Due.same("FULL", StructureMap.FULL, -4);
    }

    /** Of the document's own lines, as the machine writes them. */
    private static void members() {
        TreeSet<String> want = new TreeSet<>(Arrays.asList(
            "public static final int NONE",
            "public static final int RANGE",
            "public static final int STATE",
            "public static final int FULL",
            "public StructureMap()",
            "public int file(int)",
            "public int size(int,int)",
            "public int map(int)",
            "public int division(int,int,int,int)",
            "public int link(int,int,int,int)",
            "public int repeat(int,int)",
            "public int move(int,int)",
            "public int order(int,int)",
            "public int read(int)",
            "public int step(int,int)",
            "public int check(int)",
            "public int fault(int,int) throws java.lang.IndexOutOfBoundsException",
            "public int print(int)",
            "public int at(int)",
            "public int differ(int,int)",
            "public int about(int,int)"));
        TreeSet<String> seen = seenMembers();
        Due.same("the face is the document's, but is " + seen, seen.equals(want) ? 1 : 0, 1);
    }

    private static TreeSet<String> seenMembers() {
        TreeSet<String> seen = new TreeSet<>();
        for (Method method : StructureMap.class.getDeclaredMethods()) {
            see(seen, method.getModifiers(), method.toGenericString());
        }
        for (Field field : StructureMap.class.getDeclaredFields()) {
            see(seen, field.getModifiers(), field.toGenericString());
        }
        for (Constructor<?> constructor : StructureMap.class.getDeclaredConstructors()) {
            see(seen, constructor.getModifiers(), constructor.toGenericString());
        }
        return seen;
    }

    private static void see(TreeSet<String> seen, int modifiers, String written) {
        if (!Modifier.isPrivate(modifiers)) {
            seen.add(written.replace("StructureMap.", ""));
        }
    }

    private static void theClassItself() {
        int modifiers = StructureMap.class.getModifiers();
        Due.same("the class is public", Modifier.isPublic(modifiers) ? 1 : 0, 1);
        Due.same("the class is final", Modifier.isFinal(modifiers) ? 1 : 0, 1);
        Due.same("the class has no package", StructureMap.class.getPackageName().length(), 0);
        Due.same("the class is under Object alone",
            StructureMap.class.getSuperclass() == Object.class ? 1 : 0, 1);
        Due.same("interfaces of the class", StructureMap.class.getInterfaces().length, 0);
        Due.same("public classes inside", StructureMap.class.getClasses().length, 0);
    }

    private static void newObject() {
        StructureMap x = new StructureMap();
        Due.same("new: size(0, 1)", x.size(0, 1), -1);
        Due.same("new: division(0, -1, 0, 0)", x.division(0, -1, 0, 0), -1);
        Due.same("new: link(0, 0, 0, 1)", x.link(0, 0, 0, 1), -1);
        Due.same("new: repeat(0, 0)", x.repeat(0, 0), -1);
        Due.same("new: move(0, -1)", x.move(0, -1), -1);
        Due.same("new: order(0, 0)", x.order(0, 0), -1);
        Due.same("new: read(0)", x.read(0), -1);
        Due.same("new: step(0, 0)", x.step(0, 0), -1);
        Due.same("new: check(0)", x.check(0), -1);
        Due.throwsIndex("new: fault(0, 0)", x, 0, 0);
        Due.same("new: print(0)", x.print(0), -1);
        Due.same("new: at(0)", x.at(0), -1);
        Due.same("new: differ(0, 0)", x.differ(0, 0), -1);
        Due.same("new: about(0, 0)", x.about(0, 0), -1);
        Due.same("new: file(7)", x.file(7), 0);
        Due.same("new: map(1)", x.map(1), 0);
        Due.same("new: division(0, -1, 3, 4)", x.division(0, -1, 3, 4), 0);
    }

    private static void objectsAreApart() {
        StructureMap one = new StructureMap();
        one.file(5);
        one.map(0);
        one.division(0, -1, 0, 42);
        one.print(0);
        StructureMap two = new StructureMap();
        Due.same("apart: about(0, 3)", two.about(0, 3), -1);
        Due.same("apart: at(0)", two.at(0), -1);
        Due.same("apart: file(1)", two.file(1), 0);
        Due.same("apart: at(0) of the first", one.at(0), '4');
    }
}
