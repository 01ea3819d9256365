import java.io.IOException;
import java.nio.file.Files;
import java.nio.file.Path;
import java.util.ArrayList;
import java.util.List;

/** The document's words under each heading, and which of them some test is of. */
final class Document {
    /** Words between two quotes that bind nothing by themselves. */
    private static final String BETWEEN = "(Illegal(Argument|State)|UnsupportedOperation)Exception|or|and";

    private static final List<String> UNNUMBERED = List.of("What it is", "Terms");

    private static final class Section {
        final String heading;
        final String words;
        final boolean[] quoted;

        Section(String heading, String body) {
            this.heading = heading;
            // The signature at a promise's head is the face's, which FaceTest looks at.
            words = body.replaceAll("`[^`]*`", " ").replaceAll("\\s+", " ");
            quoted = new boolean[words.length()];
        }
    }

    private final List<Section> sections = new ArrayList<>();

    /** Without the file the tests still run; then no quote is compared with it. */
    static Document read(Path path) {
        Document document = new Document();
        if (!Files.exists(path)) {
            System.out.println("no document at " + path + ": the quotes are not compared with it");
            return document;
        }
        try {
            for (String part : Files.readString(path).split("(?m)^#+ ")) {
                String[] headAndBody = part.split("\n", 2);
                document.sections.add(new Section(headAndBody[0].trim(), headAndBody.length > 1 ? headAndBody[1] : ""));
            }
        } catch (IOException e) {
            throw new IllegalStateException("cannot read " + path, e);
        }
        return document;
    }

    /** Marks the words as those of a test; false if they do not stand under this heading. */
    boolean quote(String heading, String words) {
        boolean found = sections.isEmpty();
        for (Section section : sections) {
            if (section.heading.equals(heading) || section.heading.startsWith(heading + ":")) {
                found |= mark(section, words);
            }
        }
        return found;
    }

    private static boolean mark(Section section, String words) {
        int from = section.words.indexOf(words);
        if (from < 0) {
            return false;
        }
        for (int i = from; i < from + words.length(); i++) {
            section.quoted[i] = true;
        }
        return true;
    }

    /** What the document says of the class, the face and what is not promised aside, and no test quotes. */
    List<String> unquoted() {
        List<String> left = new ArrayList<>();
        for (Section section : sections) {
            if (section.heading.startsWith("Promise ") || UNNUMBERED.contains(section.heading)) {
                addUnquoted(section, left);
            }
        }
        return left;
    }

    private static void addUnquoted(Section section, List<String> left) {
        StringBuilder rest = new StringBuilder();
        for (int i = 0; i < section.words.length(); i++) {
            rest.append(section.quoted[i] ? '\n' : section.words.charAt(i));
        }
        for (String part : rest.toString().split("\n+")) {
            String bare = part.replaceAll("\\b(" + BETWEEN + ")\\b", "").replaceAll("[^A-Za-z0-9]+", " ").trim();
            if (!bare.isEmpty()) {
                left.add(section.heading + ": " + part.trim());
            }
        }
    }
}
