import java.lang.reflect.Constructor;
import java.lang.reflect.Field;
import java.lang.reflect.Method;
import java.lang.reflect.Modifier;
import java.util.Arrays;
import java.util.Set;
import java.util.TreeSet;

/** The public face is the document's and no more. */
public final class FaceTest {
    private static final String IOOB = "IndexOutOfBoundsException";
    private static final String CONSTANT = "public static final int DerivativeDesk.NONE";
    private static final String BOTH = "IllegalArgumentException,IndexOutOfBoundsException";

    public static void main(String[] args) {
        Checks checks = new Checks();
        Set<String> want = new TreeSet<>(Arrays.asList(
            "int letters(int,int) " + BOTH,
            "int join(int,int,int,int) " + BOTH,
            "int turn(int,int,int) " + BOTH,
            "int derive(int,int,int) " + BOTH,
            "boolean similar(int,int) " + IOOB,
            "boolean has(int,int,int) " + BOTH,
            "int states(int) " + IOOB,
            "int languages(int) " + IOOB,
            "int equal(int,int) " + IOOB,
            "int witness(int) ",
            "long words(int,int) " + BOTH,
            "int ends(int) " + IOOB,
            "long find(int,long) " + IOOB,
            "int look(int,int) " + IOOB));
        Set<String> got = new TreeSet<>();
        for (Method method : DerivativeDesk.class.getDeclaredMethods()) {
            if (!Modifier.isPrivate(method.getModifiers())) {
                got.add(told(method));
                checks.isTrue("public: " + method, Modifier.isPublic(method.getModifiers()));
            }
        }
        checks.isTrue("methods " + got + " are " + want, got.equals(want));
        checks.isTrue("final class", Modifier.isFinal(DerivativeDesk.class.getModifiers()));
        checks.isTrue("public class", Modifier.isPublic(DerivativeDesk.class.getModifiers()));
        for (Constructor<?> made : DerivativeDesk.class.getDeclaredConstructors()) {
            checks.isTrue("public constructor without parameters",
                Modifier.isPublic(made.getModifiers()) && made.getParameterCount() == 0);
        }
        checks.due("constructors", DerivativeDesk.class.getDeclaredConstructors().length, 1);
        for (Field field : DerivativeDesk.class.getDeclaredFields()) {
            checks.isTrue("private or NONE: " + field,
                Modifier.isPrivate(field.getModifiers()) || field.toString().equals(CONSTANT));
        }
        for (Class<?> inner : DerivativeDesk.class.getDeclaredClasses()) {
            checks.isTrue("static, private or package-visible: " + inner, Modifier.isStatic(inner.getModifiers())
                && !Modifier.isPublic(inner.getModifiers()) && !Modifier.isProtected(inner.getModifiers()));
        }
        checks.due("NONE", DerivativeDesk.NONE, -1);
        checks.end();
    }

    private static String told(Method method) {
        Set<String> thrown = new TreeSet<>();
        for (Class<?> type : method.getExceptionTypes()) {
            thrown.add(type.getSimpleName());
        }
        StringBuilder types = new StringBuilder();
        for (Class<?> type : method.getParameterTypes()) {
            types.append(types.length() == 0 ? "" : ",").append(type.getName());
        }
        return method.getReturnType() + " " + method.getName() + "(" + types + ") " + String.join(",", thrown);
    }
}
