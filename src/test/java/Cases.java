import java.lang.reflect.InvocationTargetException;
import java.lang.reflect.Method;
import java.lang.reflect.Modifier;
import java.util.ArrayList;
import java.util.Comparator;
import java.util.List;

/**
 * Runs the cases of a test class, each on its own. A case is a static method whose name begins with the promise, or the
 * section of the document's Terms, that it looks at: promise02_..., section5_...
 */
final class Cases {
    private Cases() {
    }

    static List<Method> of(Class<?> tests) {
        List<Method> cases = new ArrayList<>();
        for (Method method : tests.getDeclaredMethods()) {
            boolean named = method.getName().startsWith("promise") || method.getName().startsWith("section");
            if (named && Modifier.isStatic(method.getModifiers())) {
                cases.add(method);
            }
        }
        cases.sort(Comparator.comparing(Method::getName));
        return cases;
    }

    static void run(Class<?> tests) {
        List<Method> cases = of(tests);
        for (Method one : cases) {
            Check.begin(one.getName());
            try {
                one.invoke(null);
            } catch (InvocationTargetException thrown) {
                Check.fault("threw " + thrown.getCause());
            } catch (IllegalAccessException closed) {
                Check.fault("can't be called");
            }
            Check.end();
        }
        Check.finish(tests.getSimpleName() + " (" + cases.size() + " cases)");
    }
}
