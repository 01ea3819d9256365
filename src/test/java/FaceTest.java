import java.io.IOException;
import java.lang.reflect.Constructor;
import java.lang.reflect.Executable;
import java.lang.reflect.Field;
import java.lang.reflect.Method;
import java.lang.reflect.Modifier;
import java.nio.file.Files;
import java.nio.file.Path;
import java.util.ArrayList;
import java.util.HashSet;
import java.util.List;
import java.util.Set;
import java.util.TreeSet;

/** "The public face" is the document's and no more (LANGUAGE.md, rule 1). */
public final class FaceTest {
    private static final String A = "IllegalArgumentException";
    private static final String S = "IllegalStateException";
    private static final String U = "UnsupportedOperationException";
    private static final List<String> FACE = List.of(
        "public FareDesk(int rows);",
        "public void limit(int fare, int limit) throws " + A + ", " + S + ";",
        "public void price(int fare, int price) throws " + A + ";",
        "public int room(int fare) throws " + A + ";",
        "public int hold(int fare, int places, int ticks) throws " + A + ", " + S + ", " + U + ";",
        "public int join(int fare, int places, int ticks) throws " + A + ", " + S + ";",
        "public int confirm(int booking) throws " + A + ", " + S + ";",
        "public int cancel(int booking) throws " + A + ", " + S + ";",
        "public int shrink(int booking, int n) throws " + A + ", " + S + ";",
        "public void change(int booking, int fare) throws " + A + ", " + S + ", " + U + ";",
        "public int seat(int booking, int seat) throws " + A + ", " + S + ", " + U + ";",
        "public int together(int booking) throws " + A + ", " + S + ", " + U + ";",
        "public void tick(int n) throws " + A + ";",
        "public int close() throws " + S + ";",
        "public int of(int booking, int what) throws " + A + ";",
        "public int at(int seat);",
        "public int count(int which) throws " + A + ";");

    private final Check check = new Check();

    public static void main(String[] args) throws IOException {
        FaceTest test = new FaceTest();
        test.document(Path.of("..", "shared", "DOC.md"));
        test.check.same("the class is public and final", FareDesk.class.getModifiers(),
            Modifier.PUBLIC | Modifier.FINAL);
        test.check.holds("it has no package", FareDesk.class.getPackageName().isEmpty());
        test.members();
        test.names();
        test.fields();
        test.classesInside();
        test.check.end();
    }

    /** The lines above are those of the document's code block, and of the promises' heads. */
    private void document(Path path) throws IOException {
        if (!Files.exists(path)) {
            System.out.println("no document at " + path + ": the face is not compared with it");
            return;
        }
        String text = Files.readString(path);
        String block = text.substring(text.indexOf("public final class FareDesk {\n"), text.indexOf("\n}\n```"));
        List<String> lines = new ArrayList<>();
        for (String line : block.split("\n")) {
            lines.add(line.trim());
        }
        check.same("the document's face", String.join("\n", lines.subList(1, lines.size())), String.join("\n", FACE));
        for (String line : FACE) {
            String head = "`" + line.substring("public ".length(), line.length() - 1) + "`:";
            check.holds("a promise begins with " + head, text.contains(head));
        }
    }

    private void members() {
        Set<String> due = new TreeSet<>();
        for (String line : FACE) {
            due.add(line.replaceAll("int \\w+(?=[,)])", "int"));
        }
        Set<String> open = new TreeSet<>();
        for (Constructor<?> constructor : FareDesk.class.getDeclaredConstructors()) {
            open.add(written(constructor, "FareDesk"));
        }
        for (Method method : FareDesk.class.getDeclaredMethods()) {
            if (!Modifier.isPrivate(method.getModifiers())) {
                open.add(written(method, method.getReturnType().getName() + " " + method.getName()));
            }
        }
        check.same("all that is not private", String.join("\n", open), String.join("\n", due));
    }

    private static String written(Executable member, String name) {
        String modifiers = Modifier.toString(member.getModifiers());
        String thrown = names(member.getExceptionTypes());
        return modifiers + " " + name + "(" + names(member.getParameterTypes()) + ")"
            + (thrown.isEmpty() ? "" : " throws " + thrown) + ";";
    }

    private static String names(Class<?>[] types) {
        List<String> names = new ArrayList<>();
        for (Class<?> type : types) {
            names.add(type.getSimpleName());
        }
        return String.join(", ", names);
    }

    private void names() {
        Set<String> openNames = new HashSet<>();
        Set<String> privateNames = new HashSet<>();
        for (Method method : FareDesk.class.getDeclaredMethods()) {
            boolean hidden = Modifier.isPrivate(method.getModifiers());
            (hidden ? privateNames : openNames).add(method.getName());
        }
        privateNames.retainAll(openNames);
        check.same("private methods with a public name", privateNames.toString(), "[]");
    }

    private void fields() {
        for (Field field : FareDesk.class.getDeclaredFields()) {
            check.holds("it is private: " + field.getName(), Modifier.isPrivate(field.getModifiers()));
        }
    }

    private void classesInside() {
        for (Class<?> inside : FareDesk.class.getDeclaredClasses()) {
            int modifiers = inside.getModifiers();
            boolean hidden = !Modifier.isPublic(modifiers) && !Modifier.isProtected(modifiers);
            check.holds("static and seen by no one else: " + inside.getName(),
                hidden && Modifier.isStatic(modifiers));
        }
    }
}
