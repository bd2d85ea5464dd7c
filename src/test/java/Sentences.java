import java.lang.reflect.InvocationTargetException;
import java.lang.reflect.Method;
import java.util.ArrayList;
import java.util.Comparator;
import java.util.List;

/** Runs the tests of a class that say which words of the document they hold, each by itself. */
final class Sentences {
    private static final long MILLISECONDS = 30_000;

    private Sentences() {
    }

    static void run(Class<?> tests) throws Exception {
        int broken = 0;
        List<Method> all = of(tests);
        for (Method test : all) {
            if (!holds(test)) {
                broken++;
                System.out.println("BROKEN: " + name(test) + ": \"" + words(test) + "\"");
            }
        }
        System.out.println(tests.getSimpleName() + ": " + all.size() + " sentences, " + broken + " broken");
        if (broken > 0 || all.isEmpty()) {
            System.exit(1);
        }
    }

    /** By their names, as a class tells its methods in no order that is promised. */
    static List<Method> of(Class<?> tests) {
        List<Method> all = new ArrayList<>();
        for (Method method : tests.getDeclaredMethods()) {
            if (method.isAnnotationPresent(Holds.class)) {
                all.add(method);
            }
        }
        all.sort(Comparator.comparing(Method::getName));
        return all;
    }

    static String name(Method test) {
        return test.getDeclaringClass().getSimpleName() + "." + test.getName();
    }

    static String words(Method test) {
        return test.getAnnotation(Holds.class).value();
    }

    /** A sentence is broken, too, if a call of its test throws or does not end. */
    static boolean holds(Method test) throws InterruptedException {
        Check check = new Check(name(test));
        boolean[] ended = {false};
        Thread run = new Thread(() -> ended[0] = ends(test, check));
        run.setDaemon(true);
        run.start();
        run.join(MILLISECONDS);
        if (run.isAlive()) {
            System.out.println(name(test) + ": does not end");
            return false;
        }
        return ended[0] && check.holds();
    }

    private static boolean ends(Method test, Check check) {
        try {
            test.invoke(null, check);
            return true;
        } catch (InvocationTargetException thrown) {
            System.out.println(name(test) + ": " + thrown.getCause());
        } catch (IllegalAccessException hidden) {
            System.out.println(name(test) + ": " + hidden);
        }
        return false;
    }
}
