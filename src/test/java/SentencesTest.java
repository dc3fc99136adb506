import java.io.IOException;
import java.lang.reflect.Method;
import java.nio.charset.StandardCharsets;
import java.nio.file.Files;
import java.nio.file.Path;
import java.util.ArrayList;
import java.util.List;
import java.util.Map;
import java.util.TreeMap;

/**
 * Looks whether each sentence of the document's Terms and promises has a case of its own, and whether the words that the
 * cases quote stand where their names say: in the promise, or the section of the Terms, of this number.
 */
public final class SentencesTest {
    private static final Path DOCUMENT = Path.of("../shared/DOC.md");
    private static final Class<?>[] TESTS = {Section1Test.class, Section2Test.class, Section3Test.class,
        Section4Test.class, Section5Test.class, Promises01To05Test.class, Promises06To11Test.class,
        Promises12To16Test.class, Promises17To27Test.class, Promises28To31Test.class, Promises32To35Test.class,
        Promises36To44Test.class};
    /** These only say which argument is meant; what it may be stands in the promise's other sentences. */
    private static final String NAMED = "- `[a-z]+`: number of a (statement|loop|hole|duty)";

    private SentencesTest() {
    }

    public static void main(String[] args) throws IOException {
        Map<String, List<String>> quotes = quotes();
        if (!Files.exists(DOCUMENT)) {
            System.out.println("SentencesTest: " + DOCUMENT + " is not here, so nothing is looked for in it");
            return;
        }
        Map<String, String> parts = parts(Files.readString(DOCUMENT, StandardCharsets.UTF_8));
        Check.same("five sections and 44 promises", parts.size(), 5 + 44);
        for (Map.Entry<String, String> part : parts.entrySet()) {
            quoted(part.getKey(), part.getValue(), quotes.getOrDefault(part.getKey(), List.of()));
        }
        for (String name : quotes.keySet()) {
            Check.same(name + " stands in the document", parts.containsKey(name) ? 1 : 0, 1);
        }
        Check.finish("SentencesTest");
    }

    /** What the cases quote, by promise02, section5 and the like. */
    private static Map<String, List<String>> quotes() {
        Map<String, List<String>> quotes = new TreeMap<>();
        for (Class<?> tests : TESTS) {
            for (Method one : Cases.of(tests)) {
                Says says = one.getAnnotation(Says.class);
                Check.same(one.getName() + " quotes the document", says == null ? 0 : 1, 1);
                String part = one.getName().replaceFirst("_.*", "");
                for (String quote : says == null ? new String[0] : says.value()) {
                    quotes.computeIfAbsent(part, key -> new ArrayList<>()).add(quote);
                }
            }
        }
        return quotes;
    }

    /** The words of each promise, without its signature, and of each section of the Terms; a line break is a space. */
    private static Map<String, String> parts(String document) {
        Map<String, String> parts = new TreeMap<>();
        String name = "";
        for (String line : document.split("\n")) {
            if (line.matches("## Promise \\d+: .*")) {
                name = String.format("promise%02d", Integer.parseInt(line.replaceAll("\\D+(\\d+):.*", "$1")));
            } else if (line.matches("\\d\\. [A-Z ]+")) {
                name = "section" + line.charAt(0);
            } else if (line.startsWith("## ")) {
                name = "";
            } else if (!name.isEmpty() && !line.startsWith("Ahead of the calls") && !line.startsWith("```")) {
                parts.merge(name, line.replaceFirst("^`[^`]*\\)[^`]*`(: )?", "").strip() + "\n", String::concat);
            }
        }
        return parts;
    }

    private static void quoted(String name, String words, List<String> quotes) {
        String plain = plain(words);
        for (String quote : quotes) {
            Check.same(name + " says '" + quote + "'", plain.contains(plain(quote)) ? 1 : 0, 1);
        }
        for (String sentence : words.split("\n+|(?<=[.;])\\s+")) {
            if (sentence.isBlank() || sentence.strip().matches(NAMED)) {
                continue;
            }
            boolean has = false;
            for (String quote : quotes) {
                has |= plain(quote).contains(plain(sentence)) || plain(sentence).contains(plain(quote));
            }
            Check.same("a case for '" + sentence + "' of " + name, has ? 1 : 0, 1);
        }
    }

    private static String plain(String words) {
        return words.replaceAll("\\s+", " ").strip();
    }
}
