import java.io.IOException;
import java.lang.reflect.Field;
import java.lang.reflect.Method;
import java.lang.reflect.Modifier;
import java.nio.file.Files;
import java.nio.file.Path;
import java.util.ArrayList;
import java.util.List;
import java.util.Set;
import java.util.regex.Matcher;
import java.util.regex.Pattern;

/** The rules of LANGUAGE.md that can be seen in the text of FareDesk.java or on its classes. */
public final class LanguageTest {
    private static final Set<String> IMPORTS = Set.of("java.util.Arrays", "java.util.ArrayList", "java.util.List",
        "java.util.Iterator", "java.util.NoSuchElementException");
    private static final Set<String> EXCEPTIONS = Set.of("IllegalStateException", "IllegalArgumentException",
        "IndexOutOfBoundsException", "ArithmeticException", "UnsupportedOperationException",
        "NoSuchElementException", "RuntimeException");
    private static final Set<String> TYPES = Set.of("String", "StringBuilder", "Integer", "Long", "Math", "System",
        "Arrays", "ArrayList", "List", "Iterator", "Iterable", "Comparable");
    private static final Set<String> OF_SYSTEM_AND_ARRAYS =
        Set.of("System.arraycopy", "Arrays.copyOf", "Arrays.copyOfRange", "Arrays.fill");
    private static final Set<String> CONSTANTS = Set.of("int", "long", "boolean", "char", "java.lang.String",
        "[I", "[J", "[C", "[B");
    private static final String[] NEVER = {"package", "protected", "finally", "synchronized", "assert", "native",
        "volatile", "throws Exception", "->", "::", "equals(", "hashCode(", "getMessage(", "Exact("};
    private static final int MOST_LINES = 60;
    private static final int MOST_PARAMETERS = 7;
    private static final int MOST_CLASSES = 12;
    private static final int MOST_FIELDS = 20;

    private final Check check = new Check();
    private final String text;
    /** The same without comments and without what stands in quotation marks. */
    private final String code;
    private final List<Class<?>> classes = new ArrayList<>();

    private LanguageTest(String text) {
        this.text = text;
        code = text.replaceAll("(?s)/\\*.*?\\*/", "").replaceAll("//[^\n]*", "").replaceAll("\"[^\"\n]*\"", "\"\"");
        classes.add(FareDesk.class);
        classes.addAll(List.of(FareDesk.class.getDeclaredClasses()));
    }

    public static void main(String[] args) throws IOException {
        Path file = Path.of("src", "main", "java", "FareDesk.java");
        LanguageTest test = new LanguageTest(Files.readString(file));
        test.words();
        test.library();
        test.exceptions();
        test.classes();
        test.lengths();
        test.check.end();
    }

    private void words() {
        for (String word : NEVER) {
            String whole = Character.isLetter(word.charAt(0)) ? "\\b" + Pattern.quote(word) : Pattern.quote(word);
            check.holds("it has no " + word, !Pattern.compile(whole).matcher(code).find());
        }
        check.holds("no static block", !Pattern.compile("\\bstatic\\s*\\{").matcher(code).find());
        for (int i = 0; i < text.length(); i++) {
            if (text.charAt(i) > 255) {
                check.holds("characters 0 to 255 alone, not " + text.charAt(i), false);
            }
        }
    }

    private void library() {
        for (String name : found("(?m)^import ([^;]+);", code)) {
            check.holds("it may be imported: " + name, IMPORTS.contains(name));
        }
        for (String name : found("(?<![\\w.])((?:System|Arrays)\\.\\w+)", code)) {
            check.holds("it may be called: " + name, OF_SYSTEM_AND_ARRAYS.contains(name));
        }
        for (String name : found("\\b([A-Z]\\w*[a-z]\\w*)\\b", code)) {
            boolean known = TYPES.contains(name) || EXCEPTIONS.contains(name) || isOwn(name);
            check.holds("it may be used: " + name, known);
        }
    }

    private boolean isOwn(String name) {
        for (Class<?> one : classes) {
            if (one.getSimpleName().equals(name)) {
                return true;
            }
        }
        return false;
    }

    private void exceptions() {
        for (String rest : found("\\bthrow\\b([^;]*);", code)) {
            Matcher made = Pattern.compile(" new (\\w+)\\((?:\"\")?\\)").matcher(rest);
            boolean allowed = made.matches() && EXCEPTIONS.contains(made.group(1));
            check.holds("a new exception of these, with a written text or none: throw" + rest, allowed);
        }
        for (Class<?> one : classes) {
            String header = "(?m)^( *)(?:\\w+ )?" + one.getSimpleName() + "\\([^)]*\\) \\{\n(?s:(.*?))\n\\1\\}";
            Matcher constructor = Pattern.compile(header).matcher(code);
            boolean clean = constructor.find() && !constructor.group(2).contains("throw");
            check.holds("a constructor that throws nothing: " + one.getSimpleName(), clean);
        }
    }

    private void classes() {
        check.holds("not too many classes", classes.size() <= MOST_CLASSES);
        for (Class<?> one : classes) {
            int fields = 0;
            for (Field field : one.getDeclaredFields()) {
                fields += Modifier.isStatic(field.getModifiers()) ? 0 : 1;
                field(field);
            }
            check.holds("not too many fields: " + one.getName(), fields <= MOST_FIELDS);
            for (Method method : one.getDeclaredMethods()) {
                check.holds("not too many values: " + method.getName(),
                    method.getParameterCount() <= MOST_PARAMETERS);
            }
        }
    }

    private void field(Field field) {
        if (Modifier.isStatic(field.getModifiers())) {
            boolean constant = Modifier.isFinal(field.getModifiers()) && CONSTANTS.contains(field.getType().getName());
            check.holds("a constant: " + field.getName(), constant);
            return;
        }
        Class<?> type = field.getType();
        while (type.isArray()) {
            type = type.getComponentType();
        }
        boolean known = type.isPrimitive() || TYPES.contains(type.getSimpleName()) || classes.contains(type);
        check.holds("a field of a type that it may have: " + field.getName(), known);
    }

    /** A method ends where a brace stands as far in as its first line. */
    private void lengths() {
        Matcher method = Pattern.compile("(?m)^( {4,8})(?!class)\\w[^;{}=]*\\)[^;{}]*\\{\n(?s:(.*?))\n\\1\\}").matcher(text);
        int methods = 0;
        while (method.find()) {
            methods++;
            int lines = method.group().split("\n").length;
            check.holds("a short method: " + method.group().split("\n")[0].trim(), lines <= MOST_LINES);
        }
        check.holds("the methods were found", methods >= 16);
    }

    private static List<String> found(String pattern, String text) {
        List<String> all = new ArrayList<>();
        Matcher matcher = Pattern.compile(pattern).matcher(text);
        while (matcher.find()) {
            all.add(matcher.group(1));
        }
        return all;
    }
}
