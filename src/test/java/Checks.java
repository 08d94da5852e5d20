import java.nio.charset.StandardCharsets;

/** What all tests of the project use: calls and the answers that are due, and texts on the tape. */
final class Checks {
    interface Call {
        void make();
    }

    private static int wrong = 0;
    private static int made = 0;

    private Checks() {
    }

    static void due(String what, long got, long want) {
        made++;
        if (got != want) {
            wrong++;
            System.out.println(what + " answered " + got + ", due is " + want);
        }
    }

    static void due(String what, boolean got, boolean want) {
        due(what, got ? 1 : 0, want ? 1 : 0);
    }

    /** The call must throw just this class and none below it. */
    static void thrown(String what, Class<? extends RuntimeException> want, Call call) {
        made++;
        Class<?> got = null;
        try {
            call.make();
        } catch (RuntimeException e) {
            got = e.getClass();
        }
        if (got != want) {
            wrong++;
            System.out.println(what + " threw " + got + ", due is " + want);
        }
    }

    static void put(RainbowPlate x, String text) {
        byte[] bytes = text.getBytes(StandardCharsets.ISO_8859_1);
        x.end(0);
        for (int from = 0; from < bytes.length; from += 20) {
            int[] five = new int[5];
            for (int n = 0; n < 20; n++) {
                int b = from + n < bytes.length ? bytes[from + n] & 255 : 0;
                five[n / 4] |= b << 24 - n % 4 * 8;
            }
            x.feed(five[0], five[1], five[2], five[3], five[4]);
        }
        x.end(bytes.length);
    }

    static void finish(String name) {
        System.out.println(name + ": " + made + " checks, " + wrong + " wrong");
        if (wrong != 0 || made == 0) {
            System.exit(1);
        }
    }
}
