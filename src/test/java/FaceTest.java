import java.io.IOException;
import java.nio.charset.StandardCharsets;
import java.nio.file.Files;
import java.nio.file.Path;
import java.util.ArrayList;
import java.util.List;
import java.util.regex.Matcher;
import java.util.regex.Pattern;

/**
 * Holds the class's own lines against the document's face: the same names, parameters, types and exceptions in the same
 * order, no public line besides, and the same headings ahead of them.
 */
public final class FaceTest {
    private static final Path DOCUMENT = Path.of("../shared/DOC.md");
    private static final Path SOURCE = Path.of("src/main/java/BackwardProofs.java");
    private static final Pattern PROMISE = Pattern.compile("## Promise (\\d+): ([^\n]+)\n\n`([^`]+)`");
    private static final Pattern HEADING =
            Pattern.compile("Ahead of the calls ([^\n]+) the interface says: (---- [^\n]+)\\.\n");

    private FaceTest() {
    }

    public static void main(String[] args) throws IOException {
        if (!Files.exists(DOCUMENT)) {
            System.out.println("FaceTest: " + DOCUMENT + " is not here, so nothing is looked for in it");
            return;
        }
        String document = Files.readString(DOCUMENT, StandardCharsets.UTF_8);
        String source = Files.readString(SOURCE, StandardCharsets.UTF_8);
        List<String> face = face(document);
        Check.same("lines of the face", face.size(), 2 + 43);
        Check.sameText("the public lines", String.join("\n", publicLines(source)), String.join("\n", face));
        promises(document, face);
        headings(document, source);
        Check.finish("FaceTest");
    }

    /** The lines within the class of the document's face. */
    private static List<String> face(String document) {
        List<String> face = new ArrayList<>();
        for (String line : document.split("\n")) {
            if (line.startsWith("    public ")) {
                face.add(line.strip().replaceFirst(";$", ""));
            }
        }
        return face;
    }

    /** What the class says in its own lines that begin with "public", up to the body or value's end. */
    private static List<String> publicLines(String source) {
        List<String> lines = new ArrayList<>();
        Matcher matcher = Pattern.compile("\n    (public [^{;]+)").matcher(source);
        while (matcher.find()) {
            lines.add(matcher.group(1).replaceAll("\\s+", " ").strip());
        }
        return lines;
    }

    private static void promises(String document, List<String> face) {
        Matcher matcher = PROMISE.matcher(document);
        int promise = 0;
        while (matcher.find()) {
            promise++;
            Check.same("number of a promise", Integer.parseInt(matcher.group(1)), promise);
            String said = promise < face.size() ? face.get(promise) : "";
            Check.sameText("promise " + promise, said, "public " + matcher.group(3));
            String name = promise == 1 ? "A new object" : said.replaceFirst("\\(.*", "").replaceFirst(".* ", "");
            Check.sameText("heading of promise " + promise, name, matcher.group(2));
        }
        Check.same("promises", promise, 44);
    }

    /** Each heading stands in the class, and behind it, up to the next one, the methods that the document names. */
    private static void headings(String document, String source) {
        Matcher matcher = HEADING.matcher(document);
        int headings = 0;
        while (matcher.find()) {
            headings++;
            String[] parts = source.split("\n    // " + Pattern.quote(matcher.group(2)) + "\n", -1);
            Check.same("'" + matcher.group(2) + "' in the class", parts.length, 2);
            StringBuilder names = new StringBuilder();
            for (String line : publicLines("\n" + parts[parts.length - 1].split("\n    // ----")[0])) {
                String name = line.replaceFirst("\\(.*", "").replaceFirst(".* ", "");
                names.append(names.length() == 0 ? "`" : ", `").append(name).append('`');
            }
            Check.sameText("methods behind '" + matcher.group(2) + "'", names.toString(), matcher.group(1));
        }
        Check.same("headings", headings, 8);
    }
}
