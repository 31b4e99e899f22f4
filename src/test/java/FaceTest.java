import java.lang.reflect.Constructor;
import java.lang.reflect.Field;
import java.lang.reflect.Method;
import java.lang.reflect.Modifier;
import java.util.Arrays;
import java.util.TreeSet;

/** The public face, and promise 1: a new object has nothing in it. */
public final class FaceTest {
    public static void main(String[] args) {
        constants();
        members();
        newObject();
        objectsAreApart();
        Due.end();
    }

    private static void constants() {
        Due.same("NONE", StructureMap.NONE, -1);
        Due.same("RANGE", StructureMap.RANGE, -2);
        Due.same("STATE", StructureMap.STATE, -3);
        Due.same("FULL", StructureMap.FULL, -4);
    }

    private static void members() {
        TreeSet<String> seen = new TreeSet<>();
        for (Method method : StructureMap.class.getDeclaredMethods()) {
            if (!Modifier.isPrivate(method.getModifiers())) {
                seen.add(method.getName() + method.getParameterCount());
            }
        }
        for (Field field : StructureMap.class.getDeclaredFields()) {
            if (!Modifier.isPrivate(field.getModifiers())) {
                seen.add(field.getName());
            }
        }
        for (Constructor<?> constructor : StructureMap.class.getDeclaredConstructors()) {
            seen.add("new" + constructor.getParameterCount());
        }
        TreeSet<String> want = new TreeSet<>(Arrays.asList("NONE", "RANGE", "STATE", "FULL", "new0",
            "file1", "size2", "map1", "division4", "link4", "repeat2", "move2", "order2", "read1",
            "step2", "check1", "fault2", "print1", "at1", "differ2", "about2"));
        Due.same("the face is the document's, but is " + seen, seen.equals(want) ? 1 : 0, 1);
    }

    private static void newObject() {
        StructureMap x = new StructureMap();
        Due.same("new: size(0, 1)", x.size(0, 1), -1);
        Due.same("new: division(0, -1, 0, 0)", x.division(0, -1, 0, 0), -1);
        Due.same("new: link(0, 0, 0, 1)", x.link(0, 0, 0, 1), -1);
        Due.same("new: repeat(0, 0)", x.repeat(0, 0), -1);
        Due.same("new: move(0, -1)", x.move(0, -1), -1);
        Due.same("new: order(0, 0)", x.order(0, 0), -1);
        Due.same("new: read(0)", x.read(0), -1);
        Due.same("new: step(0, 0)", x.step(0, 0), -1);
        Due.same("new: check(0)", x.check(0), -1);
        Due.throwsIndex("new: fault(0, 0)", x, 0, 0);
        Due.same("new: print(0)", x.print(0), -1);
        Due.same("new: at(0)", x.at(0), -1);
        Due.same("new: differ(0, 0)", x.differ(0, 0), -1);
        Due.same("new: about(0, 0)", x.about(0, 0), -1);
        Due.same("new: file(7)", x.file(7), 0);
        Due.same("new: map(1)", x.map(1), 0);
        Due.same("new: division(0, -1, 3, 4)", x.division(0, -1, 3, 4), 0);
    }

    private static void objectsAreApart() {
        StructureMap one = new StructureMap();
        one.file(5);
        one.map(0);
        one.division(0, -1, 0, 42);
        one.print(0);
        StructureMap two = new StructureMap();
        Due.same("apart: about(0, 3)", two.about(0, 3), -1);
        Due.same("apart: at(0)", two.at(0), -1);
        Due.same("apart: file(1)", two.file(1), 0);
        Due.same("apart: at(0) of the first", one.at(0), '4');
    }
}
