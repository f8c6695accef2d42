import java.lang.reflect.Constructor;
import java.lang.reflect.Field;
import java.lang.reflect.Method;
import java.lang.reflect.Modifier;
import java.util.Set;
import java.util.TreeSet;

/** The public face. Other members are a matter of LANGUAGE.md: see LanguageTest. */
public final class FaceTest {
    public static void main(String[] args) {
        theClass();
        theConstructor();
        theMethods();
        noPublicConstants();
        Due.end("FaceTest");
    }

    private static void theClass() {
        Due.sentence("The public face: public final class RiceAdapt");
        int kind = RiceAdapt.class.getModifiers();
        Due.holds(Modifier.isPublic(kind), "the class is public");
        Due.holds(Modifier.isFinal(kind), "the class is final");
        Due.holds(RiceAdapt.class.getPackageName().isEmpty(), "the class is in no package");
    }

    private static void theConstructor() {
        Due.sentence("Promise 1: the constructor takes no arguments");
        Set<String> found = new TreeSet<>();
        for (Constructor<?> c : RiceAdapt.class.getConstructors()) {
            found.add(c.toString());
        }
        Due.holds(found.equals(Set.of("public RiceAdapt()")), "the constructors %s are public RiceAdapt()", found);
    }

    private static void theMethods() {
        Due.sentence("The public face: k, codeLen, update and cell");
        Set<String> found = new TreeSet<>();
        for (Method m : RiceAdapt.class.getMethods()) {
            found.add(m.toString());
        }
        Set<String> due = Set.of(
            "public int RiceAdapt.k(int)",
            "public int RiceAdapt.codeLen(int,int)",
            "public int RiceAdapt.update(int,int)",
            "public int RiceAdapt.cell(int)");
        for (String method : due) {
            Due.holds(found.contains(method), "the class has %s", method);
        }
    }

    private static void noPublicConstants() {
        Due.sentence("What it is: there are no public constants");
        Field[] found = RiceAdapt.class.getFields();
        Due.equal(found.length, 0, "the count of public fields");
    }
}
