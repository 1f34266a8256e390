import java.lang.reflect.InvocationTargetException;
import java.lang.reflect.Method;
import java.lang.reflect.Modifier;
import java.util.ArrayList;
import java.util.Comparator;
import java.util.HashSet;
import java.util.List;
import java.util.Set;

/**
 * Runs the cases of a test. A case is a static method without parameters that is named after the part
 * of the document it holds to, then what the case is: promise2_lengthOf1IsOutside.
 */
final class Cases {
    private Cases() {
    }

    /** Runs all cases, and wants at least one of each of the parts, and none of another part. */
    static void run(Class<?> test, String... parts) {
        Set<String> found = new HashSet<>();
        List<Method> cases = casesOf(test);
        for (Method one : cases) {
            found.add(partOf(one));
            runOne(one);
        }
        Due.begin(test.getName());
        for (String part : parts) {
            Due.holds("there is a case of " + part, found.remove(part));
        }
        Due.holds("cases of no other part: " + found, found.isEmpty());
        System.out.println(cases.size() + " cases");
        Due.end();
    }

    /** The names of the parts with numbers from first to last. */
    static String[] parts(String name, int first, int last) {
        String[] parts = new String[last - first + 1];
        for (int i = first; i <= last; i++) {
            parts[i - first] = name + i;
        }
        return parts;
    }

    private static List<Method> casesOf(Class<?> test) {
        List<Method> cases = new ArrayList<>();
        for (Method m : test.getDeclaredMethods()) {
            if (m.getName().indexOf('_') > 0 && !m.isSynthetic() && !m.getName().contains("$")) {
                cases.add(m);
            }
        }
        cases.sort(Comparator.comparing(Method::getName));
        return cases;
    }

    private static String partOf(Method one) {
        return one.getName().substring(0, one.getName().indexOf('_'));
    }

    private static void runOne(Method one) {
        Due.begin(one.getName());
        boolean runs = Modifier.isStatic(one.getModifiers()) && one.getParameterCount() == 0;
        Due.holds("it is static and has no parameters", runs);
        if (!runs) {
            return;
        }
        int before = Due.askedSoFar();
        try {
            one.setAccessible(true);
            one.invoke(null);
        } catch (InvocationTargetException thrown) {
            thrown.getCause().printStackTrace(System.out);
            Due.holds("nothing is thrown", false);
        } catch (IllegalAccessException closed) {
            Due.holds("it can be called", false);
        }
        Due.holds("it looks at something", Due.askedSoFar() > before);
    }
}
