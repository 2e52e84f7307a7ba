import java.lang.reflect.InvocationTargetException;
import java.lang.reflect.Method;
import java.util.Arrays;
import java.util.Comparator;

/** Runs every case of a test class, so that none can be written and forgotten. */
final class Cases {
    private Cases() {
    }

    static void runAll(Class<?> tests) {
        Method[] methods = tests.getDeclaredMethods();
        Arrays.sort(methods, Comparator.comparing(Method::getName));
        int ran = 0;
        for (Method method : methods) {
            if (method.isAnnotationPresent(Case.class)) {
                run(method);
                ran++;
            }
        }
        System.out.println(ran + " cases were run");
        Desk.end();
    }

    private static void run(Method method) {
        int before = Desk.wrong();
        int compared = Desk.compared();
        try {
            method.setAccessible(true);
            method.invoke(null);
        } catch (InvocationTargetException e) {
            Desk.same(method.getName() + " is left by", e.getCause().toString(), "no exception");
        } catch (IllegalAccessException e) {
            Desk.same(method.getName() + " can't be run", e.toString(), "");
        }
        if (Desk.compared() == compared) {
            Desk.same(method.getName() + " compares", "nothing", "something");
        }
        if (Desk.wrong() > before) {
            System.out.println("-- so " + method.getName() + " fails, of \"" + method.getAnnotation(Case.class).value() + "\"");
        }
    }
}
