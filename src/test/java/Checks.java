import java.lang.reflect.InvocationTargetException;
import java.lang.reflect.Method;
import java.nio.charset.StandardCharsets;
import java.util.ArrayList;
import java.util.Comparator;
import java.util.List;

/** What all tests of the project use: calls and the answers that are due, and texts on the tape. */
final class Checks {
    interface Call {
        void make();
    }

    interface Maker {
        RainbowPlate make();
    }

    interface Deed {
        void on(RainbowPlate x);
    }

    private static int wrong = 0;
    private static int made = 0;
    private static String running = "";

    private Checks() {
    }

    static void due(String what, long got, long want) {
        made++;
        if (got != want) {
            fail(what + " answered " + got + ", due is " + want);
        }
    }

    static void due(String what, boolean got, boolean want) {
        due(what, got ? 1 : 0, want ? 1 : 0);
    }

    private static void fail(String told) {
        wrong++;
        System.out.println(running + told);
    }

    /** The call must throw just this class and none below it. */
    static void thrown(String what, Class<? extends RuntimeException> want, Call call) {
        made++;
        Class<?> got = null;
        try {
            call.make();
        } catch (RuntimeException e) {
            got = e.getClass();
        }
        if (got != want) {
            fail(what + " threw " + got + ", due is " + want);
        }
    }

    /** The call must throw just this class, and leave the object like one on which it was not made. */
    static void refused(String what, Class<? extends RuntimeException> want, Maker maker, Deed deed) {
        RainbowPlate x = maker.make();
        thrown(what, want, () -> deed.on(x));
        same(what, State.of(x), State.of(maker.make()));
    }

    static void same(String what, List<String> got, List<String> want) {
        made++;
        for (int n = 0; n < Math.max(got.size(), want.size()); n++) {
            String one = n < got.size() ? got.get(n) : "nothing";
            String other = n < want.size() ? want.get(n) : "nothing";
            if (!one.equals(other)) {
                fail(what + " left " + one + ", due is " + other);
                return;
            }
        }
    }

    /** Numbers that lie outside of the bounds: next to both, and as far as can be. */
    static int[] outside(int low, int high) {
        return new int[] {low - 1, high + 1, Integer.MIN_VALUE, Integer.MAX_VALUE};
    }

    static void put(RainbowPlate x, String text) {
        byte[] bytes = text.getBytes(StandardCharsets.ISO_8859_1);
        x.end(0);
        for (int from = 0; from < bytes.length; from += 20) {
            int[] five = new int[5];
            for (int n = 0; n < 20; n++) {
                int b = from + n < bytes.length ? bytes[from + n] & 255 : 0;
                five[n / 4] |= b << 24 - n % 4 * 8;
            }
            x.feed(five[0], five[1], five[2], five[3], five[4]);
        }
        x.end(bytes.length);
    }

    /** Runs each method whose name begins with a promise's number; each promise from first to last must have one. */
    static void runPromises(Class<?> tests, int first, int last) throws Exception {
        List<Method> methods = new ArrayList<>(List.of(tests.getDeclaredMethods()));
        methods.removeIf(method -> !method.getName().startsWith("promise"));
        methods.sort(Comparator.comparing(Method::getName));
        for (int promise = first; promise <= last; promise++) {
            String name = String.format("promise%02d", promise);
            due(name + " has a test", methods.stream().anyMatch(method -> method.getName().startsWith(name)), true);
        }
        for (Method method : methods) {
            running = method.getName() + ": ";
            int before = made;
            method.setAccessible(true);
            try {
                method.invoke(null);
            } catch (InvocationTargetException e) {
                fail("threw " + e.getCause());
            }
            due("checks something", made > before, true);
        }
        running = "";
        finish(tests.getSimpleName());
    }

    static void finish(String name) {
        System.out.println(name + ": " + made + " checks, " + wrong + " wrong");
        if (wrong != 0 || made == 0) {
            System.exit(1);
        }
    }
}
