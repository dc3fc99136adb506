import java.io.IOException;
import java.lang.reflect.Constructor;
import java.lang.reflect.Field;
import java.lang.reflect.Method;
import java.lang.reflect.Modifier;
import java.nio.charset.StandardCharsets;
import java.nio.file.Files;
import java.nio.file.Path;
import java.util.Arrays;
import java.util.Set;
import java.util.TreeSet;

/** The face of the class, and some rules of ../shared/LANGUAGE.md that can be looked at in a simple way. */
public final class RulesTest {
    private static final String[] FACE = {
        "int feed(int, int, int, int, int)", "int load(int)", "int errorCode()", "int errorPosition()", "int value(int)",
        "int statement(int, int)", "long before()", "long after()", "long loopSet(int, int)", "int less(int, int)",
        "long need(int)", "long needAhead()", "int duty(int, int)", "long failing(int)", "int trouble()", "int run(int)",
        "int steps(int)", "float cost(int)", "int costBits(int)", "long met(int)", "int rounds(int)", "long wrong()",
        "int dearest()", "double meanCost()", "long meanBits()", "float share()", "int proves(int)", "int rights(int)",
        "long safe(int)", "long unsafe(int)", "int writeNeed(int)", "int outputByte(int)", "int needNodes(int)",
        "int gap(int)", "int setBefore(int)", "int setAfter(int)", "int setKeep(int, int)", "int setLess(int, int)",
        "int fill(int, int)", "int setPrice(int, int)", "int restore(int)", "int undo()", "int save(int)"};

    private static final String[] NOT_ALLOWED = {"finally", "->", "::", "Float.", "Double.", "Exact(", "synchronized",
        "assert ", "protected ", "var ", "hashCode", "String.format", "\" +", "+ \"", "ordinal", "Character", "System.out",
        "System.nano", "System.current", "getMessage", "java.util.function"};

    private RulesTest() {
    }

    public static void main(String[] args) throws IOException {
        face();
        classesInside();
        source(Files.readString(Path.of("src/main/java/BackwardProofs.java"), StandardCharsets.UTF_8));
        Check.finish("RulesTest");
    }

    private static void face() {
        Set<String> due = new TreeSet<>(Arrays.asList(FACE));
        Set<String> got = new TreeSet<>();
        Set<String> names = new TreeSet<>();
        for (Method method : BackwardProofs.class.getDeclaredMethods()) {
            if (Modifier.isPublic(method.getModifiers())) {
                got.add(signature(method));
                names.add(method.getName());
            }
        }
        Check.sameText("the public methods", got.toString(), due.toString());
        for (Method method : BackwardProofs.class.getDeclaredMethods()) {
            if (!Modifier.isPublic(method.getModifiers())) {
                Check.same(method + " is private", Modifier.isPrivate(method.getModifiers()) ? 1 : 0, 1);
                Check.same(method + " has a name of the face", names.contains(method.getName()) ? 1 : 0, 0);
            }
        }
        for (Field field : BackwardProofs.class.getDeclaredFields()) {
            boolean asDue = field.getName().equals("NONE")
                    ? Modifier.isPublic(field.getModifiers()) && Modifier.isStatic(field.getModifiers())
                    : Modifier.isPrivate(field.getModifiers());
            Check.same(field + " is private or NONE", asDue ? 1 : 0, 1);
        }
        Constructor<?>[] constructors = BackwardProofs.class.getDeclaredConstructors();
        Check.same("constructors", constructors.length, 1);
        Check.same("parameters of the constructor", constructors[0].getParameterCount(), 0);
        Check.same("the class is public and final", BackwardProofs.class.getModifiers(), Modifier.PUBLIC | Modifier.FINAL);
    }

    private static String signature(Method method) {
        StringBuilder parameters = new StringBuilder();
        for (Class<?> parameter : method.getParameterTypes()) {
            parameters.append(parameters.length() == 0 ? "" : ", ").append(parameter.getName());
        }
        return method.getReturnType().getName() + " " + method.getName() + "(" + parameters + ")";
    }

    private static void classesInside() {
        Class<?>[] inside = BackwardProofs.class.getDeclaredClasses();
        Check.same("at most twelve classes", inside.length <= 11 ? 1 : 0, 1);
        for (Class<?> one : inside) {
            int modifiers = one.getModifiers();
            boolean hidden = !Modifier.isPublic(modifiers) && !Modifier.isProtected(modifiers);
            Check.same(one + " is hidden and static", hidden && Modifier.isStatic(modifiers) ? 1 : 0, 1);
            int fields = 0;
            for (Field field : one.getDeclaredFields()) {
                fields += Modifier.isStatic(field.getModifiers()) ? 0 : 1;
                boolean shared = Modifier.isStatic(field.getModifiers()) && !Modifier.isFinal(field.getModifiers());
                Check.same(field + " is shared and not final", shared ? 1 : 0, 0);
            }
            Check.same(one + " has at most twenty fields", fields <= 20 ? 1 : 0, 1);
            for (Method method : one.getDeclaredMethods()) {
                Check.same(method + " has at most seven parameters", method.getParameterCount() <= 7 ? 1 : 0, 1);
            }
        }
    }

    private static void source(String source) {
        String[] lines = source.split("\n");
        int length = 0;
        for (String line : lines) {
            boolean comment = line.trim().startsWith("*") || line.trim().startsWith("/");
            for (String word : NOT_ALLOWED) {
                Check.same("'" + word + "' in " + line, !comment && line.contains(word) ? 1 : 0, 0);
            }
            if (line.startsWith("import ")) {
                boolean known = line.equals("import java.util.Arrays;")
                        || line.equals("import java.util.NoSuchElementException;");
                Check.same(line, known ? 1 : 0, 1);
            }
            length = line.isBlank() ? 0 : line.contains(" class ") ? 0 : length + 1;
            Check.same("a method grows too long at " + line, length > 70 ? 1 : 0, 0);
        }
    }
}
