import java.lang.reflect.InvocationTargetException;
import java.lang.reflect.Method;
import java.util.Arrays;
import java.util.Comparator;

/**
 * Runs the cases of a test class: each method whose name begins with a part of the document, then
 * what of it, then the case. A case that throws has failed; the others are run all the same.
 */
final class Cases {
    private Cases() {
    }

    static void runAll(Class<?> tests) {
        Method[] methods = tests.getDeclaredMethods();
        Arrays.sort(methods, Comparator.comparing(Method::getName));
        int count = 0;
        for (Method m : methods) {
            if (isCase(m)) {
                run(m);
                count++;
            }
        }
        System.out.println(count + " cases");
        Check.begin("cases");
        Check.isTrue("there are some", count > 0);
        Check.end();
    }

    private static boolean isCase(Method m) {
        return m.getName().matches("(whatItIs|terms|promise[0-9]+)_.*");
    }

    private static void run(Method m) {
        Check.begin(m.getName());
        try {
            m.invoke(null);
        } catch (InvocationTargetException e) {
            Check.fail("threw " + e.getCause());
        } catch (IllegalAccessException e) {
            Check.fail("cannot be called");
        }
    }
}
