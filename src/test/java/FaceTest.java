import java.lang.reflect.Constructor;
import java.lang.reflect.Field;
import java.lang.reflect.Method;
import java.lang.reflect.Modifier;
import java.util.Arrays;

/** The public face. Other members are a matter of LANGUAGE.md: see LanguageTest. */
public final class FaceTest {
    public static void main(String[] args) {
        theClass();
        theConstructor();
        theMethods();
        noPublicConstants();
        Due.end("FaceTest");
    }

    private static void theClass() {
        Due.sentence("The public face: public final class RiceAdapt");
        int kind = RiceAdapt.class.getModifiers();
        Due.holds(Modifier.isPublic(kind), "the class is public");
        Due.holds(Modifier.isFinal(kind), "the class is final");
        Due.holds(RiceAdapt.class.getPackageName().isEmpty(), "the class is in no package");
    }

    private static void theConstructor() {
        Due.sentence("The public face: public RiceAdapt(); promise 1: the constructor takes no arguments");
        Constructor<?>[] found = RiceAdapt.class.getConstructors();
        Due.equal(found.length, 1, "the count of public constructors");
        for (Constructor<?> one : found) {
            Due.equal(one.getParameterCount(), 0, "the count of parameters of %s", one);
        }
    }

    private static void theMethods() {
        Due.sentence("The public face: public int k, codeLen, update and cell");
        hasMethod("k", int.class);
        hasMethod("codeLen", int.class, int.class);
        hasMethod("update", int.class, int.class);
        hasMethod("cell", int.class);
    }

    private static void hasMethod(String name, Class<?>... parameters) {
        boolean found = false;
        for (Method one : RiceAdapt.class.getMethods()) {
            boolean named = one.getName().equals(name) && Arrays.equals(one.getParameterTypes(), parameters);
            found |= named && one.getReturnType() == int.class && !Modifier.isStatic(one.getModifiers());
        }
        Due.holds(found, "the class has public int %s with %d int parameters", name, parameters.length);
    }

    private static void noPublicConstants() {
        Due.sentence("What it is: there are no public constants");
        Field[] found = RiceAdapt.class.getFields();
        Due.equal(found.length, 0, "the count of public fields");
    }
}
