import java.lang.reflect.InvocationTargetException;
import java.lang.reflect.Method;
import java.lang.reflect.Modifier;
import java.util.ArrayList;
import java.util.Arrays;
import java.util.Comparator;
import java.util.List;
import java.util.Random;

/**
 * Calls with wild numbers in wild states: nothing is thrown but by a throw of the class and as its
 * face says, and a call that throws changes nothing. A twin, on which only the calls that did not
 * throw are made, must answer alike.
 */
public final class FuzzTest {
    private static final int RUNS = 1200;
    private static final Checks.Maker[] BEGINS = {Make::fresh, Make::rich, Make::full};
    /** With those that make the object, those of texts and those that compare, no object gets more than 512. */
    private static final int[] CALLS = {160, 130, 80};
    private static final int[] NUMBERS = {Integer.MIN_VALUE, -1001, -51, -50, -9, -2, -1, 0, 0, 0, 1, 1, 1, 2, 2, 3, 4, 5, 5, 6, 7,
        9, 10, 24, 25, 49, 50, 51, 63, 64, 99, 100, 400, 401, 499, 500, 501, 998, 999, 1000, 1000, 1001, 1200, 1201, 2000, 5000,
        9999, 10000, 65536, Integer.MAX_VALUE};
    private static final int[] SMALL = {-1, 0, 0, 1, 1, 2, 3, 5, 6, 9, 20, 300, 1000, 2500, 9999};
    private static final String[] WORDS = {"sets", "fewest", "readings", "ghosts", "laws", "sure", "may", "not", "(", ")", "<", ">",
        "+", "or", "and", "0", "1", "5", "6", "9999", "10000", " ", "x", "\u00FF", "\u0000"};

    private final Random random;
    private final RainbowPlate x;
    private final RainbowPlate twin;
    private final String name;
    private final List<Method> face = new ArrayList<>();

    private FuzzTest(int run) {
        random = new Random(run);
        x = BEGINS[run % BEGINS.length].make();
        twin = BEGINS[run % BEGINS.length].make();
        name = "run " + run + " ";
        for (Method method : RainbowPlate.class.getDeclaredMethods()) {
            if (Modifier.isPublic(method.getModifiers())) {
                face.add(method);
            }
        }
        // the order in which methods are told is free, and the runs must be the same each time
        face.sort(Comparator.comparing(Method::getName));
    }

    public static void main(String[] args) throws Exception {
        for (int run = 0; run < RUNS; run++) {
            FuzzTest test = new FuzzTest(run);
            for (int n = 0; n < CALLS[run % CALLS.length]; n++) {
                test.call();
            }
            test.compare();
        }
        Checks.finish("FuzzTest");
    }

    private void call() throws Exception {
        if (random.nextInt(12) == 0) {
            claim();
            return;
        }
        Method method = face.get(random.nextInt(face.size()));
        boolean rare = method.getName().equals("known") || method.getName().equals("back");
        if (rare && random.nextInt(8) != 0 || method.getName().equals("claim") || method.getName().equals("feed")) {
            return;
        }
        Object[] numbers = new Object[method.getParameterCount()];
        int[] pool = random.nextInt(3) == 0 ? NUMBERS : SMALL;
        for (int n = 0; n < numbers.length; n++) {
            boolean flag = method.getParameterTypes()[n] == boolean.class;
            numbers[n] = flag ? (Object) random.nextBoolean() : (Object) pool[random.nextInt(pool.length)];
        }
        Object answer = answerOf(method, x, numbers);
        if (!(answer instanceof Class)) {
            same(method + Arrays.toString(numbers), answer, answerOf(method, twin, numbers));
        }
    }

    private void claim() throws Exception {
        StringBuilder text = new StringBuilder();
        for (int n = random.nextInt(30); n > 0; n--) {
            text.append(WORDS[random.nextInt(WORDS.length)]);
        }
        String told = random.nextInt(3) == 0 ? "may 0 and not (sets + 1 < readings + ghosts or fewest > laws)" : text.toString();
        Checks.put(x, told);
        Object answer = answerOf(RainbowPlate.class.getMethod("claim"), x);
        Checks.put(twin, told);
        same("claim " + told, answer, answerOf(RainbowPlate.class.getMethod("claim"), twin));
    }

    private void same(String what, Object got, Object want) {
        Checks.due(name + what + " " + got + " " + want, got == null ? want == null : got.equals(want), true);
    }

    /** What the call answers, or the class that it throws. */
    private Object answerOf(Method method, RainbowPlate on, Object... numbers) throws Exception {
        try {
            return method.invoke(on, numbers);
        } catch (InvocationTargetException e) {
            Throwable thrown = e.getCause();
            String by = thrown.getStackTrace()[0].getMethodName();
            boolean told = Arrays.asList(method.getExceptionTypes()).contains(thrown.getClass()) && by.startsWith("want");
            Checks.due(name + method + Arrays.toString(numbers) + " threw " + thrown + " in " + by, told, true);
            return thrown.getClass();
        }
    }

    /** All questions of the face, with numbers within bounds. */
    private void compare() throws Exception {
        for (Method method : face) {
            if (!List.of("feed", "end", "claim", "image").contains(method.getName())) {
                for (int n = 0; n < 3; n++) {
                    Object[] numbers = new Object[method.getParameterCount()];
                    for (int k = 0; k < numbers.length; k++) {
                        boolean flag = method.getParameterTypes()[k] == boolean.class;
                        numbers[k] = flag ? (Object) random.nextBoolean() : (Object) random.nextInt(k == 0 ? 3 : 7);
                    }
                    same(method + Arrays.toString(numbers), answerOf(method, x, numbers), answerOf(method, twin, numbers));
                }
            }
        }
    }
}
