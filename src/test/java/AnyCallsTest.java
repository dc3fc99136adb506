import java.lang.reflect.InvocationTargetException;
import java.lang.reflect.Method;
import java.lang.reflect.Modifier;
import java.util.ArrayList;
import java.util.Comparator;
import java.util.List;

/**
 * Calls of all methods in any order with any arguments, the greatest and the least among them: a call throws nothing but
 * what its method says, never what the machine throws by itself, and the same calls give the same answers.
 */
public final class AnyCallsTest {
    private static final int OBJECTS = 400;
    private static final int CALLS = 512;
    /** A text of 800 bytes is fed by 40 calls and parsed by one more. */
    private static final int MOST_AT_ONCE = 41;
    private static final int[] EDGES = {-1, 0, 1, 2, 3, 4, 7, 8, 9, 10, 11, 20, 23, 24, 25, 38, 39, 40, 63, 64, 65, 72, 73,
        98, 99, 100, 199, 200, 201, 780, 800, 801, Integer.MIN_VALUE, Integer.MIN_VALUE + 1, Integer.MAX_VALUE - 1,
        Integer.MAX_VALUE};

    private AnyCallsTest() {
    }

    public static void main(String[] args) throws IllegalAccessException {
        List<Method> face = new ArrayList<>();
        for (Method method : BackwardProofs.class.getDeclaredMethods()) {
            if (Modifier.isPublic(method.getModifiers())) {
                face.add(method);
            }
        }
        face.sort(Comparator.comparing(Method::getName));
        Check.same("methods of the face", face.size(), 43);
        for (int seed = 0; seed < OBJECTS; seed++) {
            String first = answers(face, seed);
            if (seed % 10 == 0) {
                Check.sameText("the answers of the same calls once more", answers(face, seed), first);
            }
        }
        Check.finish("AnyCallsTest");
    }

    private static String answers(List<Method> face, int seed) throws IllegalAccessException {
        Dice dice = new Dice(seed);
        BackwardProofs x = new BackwardProofs();
        StringBuilder answers = new StringBuilder();
        int made = 0;
        while (made < CALLS - MOST_AT_ONCE) {
            int kind = dice.below(12);
            if (kind == 0) {
                made += parse(x, dice, dice.description(1 + dice.below(24)), 0, answers);
            } else if (kind == 1) {
                made += parse(x, dice, dice.shortCondition(), 1 + dice.below(3), answers);
            } else if (kind == 2) {
                made += parse(x, dice, dice.expression(2), 4, answers);
            } else {
                any(x, face.get(dice.below(face.size())), dice, answers);
                made++;
            }
        }
        return answers.toString();
    }

    /** Feeds a text, now and then a spoiled one, and lets it be parsed. */
    private static int parse(BackwardProofs x, Dice dice, String good, int which, StringBuilder answers) {
        String text = dice.below(5) == 0 ? dice.spoiled(good) : good;
        int loop = dice.below(3);
        try {
            Check.feed(x, text);
            answers.append(parsed(x, which, loop, text.length())).append(' ');
        } catch (RuntimeException thrown) {
            asSaid("a text", thrown, RuntimeException.class);
            answers.append(thrown.getClass().getName()).append(' ');
        }
        return 1 + (text.length() + 19) / 20;
    }

    private static int parsed(BackwardProofs x, int which, int loop, int length) {
        switch (which) {
            case 0:
                return x.load(length);
            case 1:
                return x.setBefore(length);
            case 2:
                return x.setAfter(length);
            case 3:
                return x.setKeep(loop, length);
            default:
                return x.setLess(loop, length);
        }
    }

    private static void any(BackwardProofs x, Method method, Dice dice, StringBuilder answers)
            throws IllegalAccessException {
        Object[] arguments = new Object[method.getParameterCount()];
        StringBuilder call = new StringBuilder(method.getName());
        for (int i = 0; i < arguments.length; i++) {
            arguments[i] = dice.below(3) == 0 ? EDGES[dice.below(EDGES.length)] : dice.below(4);
            call.append(' ').append(arguments[i]);
        }
        try {
            answers.append(method.invoke(x, arguments)).append(' ');
        } catch (InvocationTargetException thrown) {
            asSaid(call.toString(), thrown.getCause(), method.getExceptionTypes());
            answers.append(thrown.getCause().getClass().getName()).append(' ');
        }
    }

    /** The machine's own exceptions have other classes than those that the document names, and no texts are thrown. */
    private static void asSaid(String call, Throwable thrown, Class<?>... said) {
        boolean known = false;
        for (Class<?> one : said) {
            known |= one == thrown.getClass() || one == RuntimeException.class && isOfTheDocument(thrown.getClass());
        }
        Check.same(call + " threw " + thrown, known && thrown.getMessage() == null ? 1 : 0, 1);
    }

    private static boolean isOfTheDocument(Class<?> thrown) {
        return thrown == IllegalStateException.class || thrown == IllegalArgumentException.class
                || thrown == java.util.NoSuchElementException.class;
    }
}
