import java.lang.reflect.Constructor;
import java.lang.reflect.Field;
import java.lang.reflect.Method;
import java.lang.reflect.Modifier;
import java.util.Set;
import java.util.TreeSet;

/** The public face: the document's members, and no other that is not private. */
public final class FaceTest {
    public static void main(String[] args) {
        int kind = RiceAdapt.class.getModifiers();
        Due.isTrue("the class is public and final", Modifier.isPublic(kind) && Modifier.isFinal(kind));
        Due.isTrue("the class has no superclass but Object", RiceAdapt.class.getSuperclass() == Object.class);
        Due.isTrue("the class has no interface", RiceAdapt.class.getInterfaces().length == 0);
        Due.isTrue("the class has no nested class", RiceAdapt.class.getDeclaredClasses().length == 0);
        members();
        Due.end("FaceTest");
    }

    private static void members() {
        Set<String> found = new TreeSet<>();
        for (Constructor<?> c : RiceAdapt.class.getDeclaredConstructors()) {
            if (!Modifier.isPrivate(c.getModifiers())) {
                found.add(c.toString());
            }
        }
        for (Method m : RiceAdapt.class.getDeclaredMethods()) {
            if (!Modifier.isPrivate(m.getModifiers())) {
                found.add(m.toString());
            }
        }
        for (Field f : RiceAdapt.class.getDeclaredFields()) {
            if (!Modifier.isPrivate(f.getModifiers())) {
                found.add(f.toString());
            }
        }
        Set<String> due = new TreeSet<>(Set.of(
            "public RiceAdapt()",
            "public int RiceAdapt.k(int)",
            "public int RiceAdapt.codeLen(int,int)",
            "public int RiceAdapt.update(int,int)",
            "public int RiceAdapt.cell(int)"));
        Due.isTrue("the members that are not private, " + found + ", are " + due, found.equals(due));
    }
}
