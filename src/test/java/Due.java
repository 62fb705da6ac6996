import java.lang.reflect.InvocationTargetException;
import java.lang.reflect.Method;
import java.lang.reflect.Modifier;
import java.util.Arrays;
import java.util.Comparator;

/** Compares answers with what is due, and runs the cases of a test class one by one. */
final class Due {
    private final String name;
    private String caseName = "";
    private int right;
    private int wrong;

    Due(String name) {
        this.name = name;
    }

    void is(String call, long got, long want) {
        if (got == want) {
            right++;
        } else {
            tellWrong(call + " answered " + got + ", due is " + want);
        }
    }

    void is(String call, boolean got, boolean want) {
        is(call, got ? 1 : 0, want ? 1 : 0);
    }

    void is(String call, String got, String want) {
        if (got.equals(want)) {
            right++;
        } else {
            tellWrong(call + " answered " + got + ", due is " + want);
        }
    }

    /** Each static method without arguments that is not private is a case of its own, named after what it looks at. */
    void runCases(Class<?> test) {
        Method[] methods = test.getDeclaredMethods();
        Arrays.sort(methods, Comparator.comparing(Method::getName));
        for (Method method : methods) {
            int hidden = method.getModifiers() & Modifier.PRIVATE;
            if (method.getParameterCount() == 0 && hidden == 0 && Modifier.isStatic(method.getModifiers())) {
                runCase(method);
            }
        }
        end();
    }

    private void runCase(Method method) {
        caseName = ", " + method.getName();
        int rightBefore = right;
        int wrongBefore = wrong;
        try {
            method.invoke(null);
        } catch (InvocationTargetException e) {
            tellWrong("threw " + e.getCause());
        } catch (IllegalAccessException e) {
            tellWrong("can't be run: " + e);
        }
        if (right == rightBefore && wrong == wrongBefore) {
            tellWrong("looked at nothing");
        }
        System.out.println((wrong == wrongBefore ? "ok     " : "FAILED ") + name + caseName);
    }

    private void tellWrong(String what) {
        wrong++;
        System.out.println(name + caseName + ": " + what);
    }

    void end() {
        System.out.println(name + ": " + right + " answers as due, " + wrong + " not");
        if (wrong > 0 || right == 0) {
            System.exit(1);
        }
    }
}
