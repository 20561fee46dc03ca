import java.lang.reflect.InvocationTargetException;
import java.lang.reflect.Method;
import java.util.ArrayList;
import java.util.Comparator;
import java.util.List;

/** Counts what is as due and what is not; prints the latter. */
final class Check {
    /** What a cast, a shift or a sum could wrap round to a number that is as told. */
    static final int[] WILD = {
        Integer.MIN_VALUE, Integer.MIN_VALUE + 1, -65536, -256, -7, 256 + 65, 65536, 65536 + 65, 1 << 30, Integer.MAX_VALUE};

    private static int passed;
    private static int failed;

    private Check() {
    }

    static void due(String what, long got, long want) {
        if (got == want) {
            passed++;
        } else {
            failed++;
            System.out.println(what + " answered " + got + ", due is " + want);
        }
    }

    /** Named by the test and the line that ask. */
    static void due(long got, long want) {
        if (got == want) {
            passed++;
        } else {
            due(asking(), got, want);
        }
    }

    static void same(String what, String got, String want) {
        if (got.equals(want)) {
            passed++;
        } else {
            failed++;
            System.out.println(asking() + ", " + what + ":\n  " + got + "\n  is not\n  " + want);
        }
    }

    static void isTrue(String what, boolean holds) {
        due(what, holds ? 1 : 0, 1);
    }

    private static String asking() {
        return StackWalker.getInstance().walk(frames -> frames
            .filter(frame -> frame.getMethodName().startsWith("promise"))
            .findFirst()
            .map(frame -> frame.getClassName() + "." + frame.getMethodName() + ", line " + frame.getLineNumber())
            .orElse("?"));
    }

    /** Tells the signs of a text; the pad must have room for them. */
    static void tell(SpeakTubes x, String text) {
        x.wipe();
        for (int i = 0; i < text.length(); i++) {
            due("say in " + text, x.say(text.charAt(i)), i + 1);
        }
    }

    static SpeakTubes houseOf(String text) {
        SpeakTubes x = new SpeakTubes();
        tell(x, text);
        due("house of " + text, x.house(), text.length() / 4);
        return x;
    }

    /** Every test of a class: its methods that are named after promises, of which none from first to last may lack one. */
    static void promises(Class<?> tests, int first, int last) {
        List<Method> all = new ArrayList<>();
        for (Method method : tests.getDeclaredMethods()) {
            if (method.getName().matches("promise\\d+\\w*")) {
                all.add(method);
            }
        }
        all.sort(Comparator.comparing(Check::numberOf).thenComparing(Method::getName));
        for (int number = first; number <= last; number++) {
            int n = number;
            isTrue(tests.getName() + " tests promise " + n, all.stream().anyMatch(method -> numberOf(method) == n));
        }
        for (Method test : all) {
            run(test);
        }
        end(tests.getName());
    }

    private static int numberOf(Method test) {
        return Integer.parseInt(test.getName().replaceAll("promise(\\d+).*", "$1"));
    }

    private static void run(Method test) {
        try {
            test.setAccessible(true);
            test.invoke(null);
        } catch (InvocationTargetException thrown) {
            failed++;
            System.out.println(test.getName() + " threw " + thrown.getCause());
        } catch (IllegalAccessException closed) {
            throw new AssertionError(closed);
        }
    }

    static void end(String test) {
        System.out.println(test + ": " + passed + " answers as due, " + failed + " not");
        if (failed != 0) {
            System.exit(1);
        }
    }
}
