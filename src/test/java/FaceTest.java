import java.lang.reflect.Constructor;
import java.lang.reflect.Field;
import java.lang.reflect.Method;
import java.lang.reflect.Modifier;
import java.util.HashSet;
import java.util.Set;
import java.util.TreeSet;

/** "The public face" is the document's and no more (LANGUAGE.md, rules 1 and 5). */
public final class FaceTest {
    private static final String A = " IllegalArgumentException";
    private static final String S = " IllegalStateException";
    private static final String U = " UnsupportedOperationException";
    private static final Set<String> FACE = Set.of(
        "void limit 2" + A + S,
        "void price 2" + A,
        "int room 1" + A,
        "int hold 3" + A + S + U,
        "int join 3" + A + S,
        "int confirm 1" + A + S,
        "int cancel 1" + A + S,
        "int shrink 2" + A + S,
        "void change 2" + A + S + U,
        "int seat 2" + A + S + U,
        "int together 1" + A + S + U,
        "void tick 1" + A,
        "int close 0" + S,
        "int of 2" + A,
        "int at 1",
        "int count 1" + A);

    public static void main(String[] args) {
        Check check = new Check();
        check.same("the class is public and final", FareDesk.class.getModifiers(),
            Modifier.PUBLIC | Modifier.FINAL);
        constructors(check);
        methods(check);
        fields(check);
        classesInside(check);
        check.end();
    }

    private static void constructors(Check check) {
        Constructor<?>[] all = FareDesk.class.getDeclaredConstructors();
        check.same("constructors", all.length, 1);
        check.same("the constructor is public", all[0].getModifiers(), Modifier.PUBLIC);
        check.same("parameters of the constructor", all[0].getParameterCount(), 1);
    }

    private static void methods(Check check) {
        Set<String> open = new TreeSet<>();
        Set<String> openNames = new HashSet<>();
        Set<String> privateNames = new HashSet<>();
        for (Method method : FareDesk.class.getDeclaredMethods()) {
            if (Modifier.isPrivate(method.getModifiers())) {
                privateNames.add(method.getName());
            } else {
                open.add(written(method));
                openNames.add(method.getName());
            }
        }
        for (String method : open) {
            check.holds("it stands in the document: " + method, FACE.contains(method));
        }
        check.same("open methods", open.size(), FACE.size());
        privateNames.retainAll(openNames);
        check.same("private methods with a public name", privateNames.size(), 0);
    }

    private static String written(Method method) {
        StringBuilder text = new StringBuilder();
        text.append(method.getReturnType().getSimpleName());
        text.append(' ').append(method.getName());
        text.append(' ').append(method.getParameterCount());
        for (Class<?> thrown : method.getExceptionTypes()) {
            text.append(' ').append(thrown.getSimpleName());
        }
        return text.toString();
    }

    private static void fields(Check check) {
        for (Field field : FareDesk.class.getDeclaredFields()) {
            int modifiers = field.getModifiers();
            check.holds("it is private: " + field.getName(), Modifier.isPrivate(modifiers));
            boolean lasting = !Modifier.isStatic(modifiers) || Modifier.isFinal(modifiers);
            check.holds("it is final if static: " + field.getName(), lasting);
        }
    }

    private static void classesInside(Check check) {
        for (Class<?> inside : FareDesk.class.getDeclaredClasses()) {
            int modifiers = inside.getModifiers();
            boolean hidden = !Modifier.isPublic(modifiers) && !Modifier.isProtected(modifiers);
            check.holds("static and seen by no one else: " + inside.getName(),
                hidden && Modifier.isStatic(modifiers));
        }
    }
}
