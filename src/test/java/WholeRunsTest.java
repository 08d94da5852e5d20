import java.lang.reflect.InvocationTargetException;
import java.lang.reflect.Method;
import java.lang.reflect.Modifier;
import java.util.ArrayList;
import java.util.Arrays;
import java.util.HashMap;
import java.util.HashSet;
import java.util.List;
import java.util.Map;
import java.util.Objects;
import java.util.Random;
import java.util.Set;

/**
 * Whole runs of calls in any order, right ones and wrong ones, texts and images among them, on the class and on
 * Model: each answer, or what is thrown instead, must be the same. Of a run that differs all calls are told.
 * Other runs than those of each time: java WholeRunsTest first last.
 */
public final class WholeRunsTest {
    private static final int RUNS = 60;
    private static final int MOST_CALLS = 512;
    private static final int[] SPOILED = {-1, -2, 0, 1, 2, 3, 4, 5, 6, 7, 8, 9, 10, 11, 24, 49, 50, 51, -9, -50, -51, 63, 64, 400,
        500, 501, 999, 1000, 1200, 1201, 9999, 10000, Integer.MIN_VALUE, Integer.MAX_VALUE};
    private static final Map<String, Method> FACE = faceOf(RainbowPlate.class);
    private static final Map<String, Method> MODEL = faceOf(Model.class);
    private static final Set<String> CALLED = new HashSet<>();

    private final Random random;
    private final Texts texts;
    private final RainbowPlate x = new RainbowPlate();
    private final Model model = new Model();
    private final List<String> told = new ArrayList<>();
    private final String name;
    private final int a;
    private final int b;
    private final int c;
    private boolean differs;

    private WholeRunsTest(int run) {
        random = new Random(run);
        texts = new Texts(random);
        name = "run " + run;
        a = from(900, 3000);
        b = from(5, 60);
        c = from(-3, 3);
    }

    public static void main(String[] args) throws Exception {
        int first = args.length == 2 ? Integer.parseInt(args[0]) : 0;
        int last = args.length == 2 ? Integer.parseInt(args[1]) : RUNS;
        for (int run = first; run < last; run++) {
            new WholeRunsTest(run).goThrough();
        }
        Checks.due("calls of the face that were made", CALLED.size(), FACE.size());
        Checks.finish("WholeRunsTest");
    }

    private static Map<String, Method> faceOf(Class<?> kind) {
        Map<String, Method> face = new HashMap<>();
        for (Method method : kind.getDeclaredMethods()) {
            if (Modifier.isPublic(method.getModifiers())) {
                face.put(method.getName(), method);
            }
        }
        return face;
    }

    private void goThrough() throws Exception {
        int early = from(20, 120);
        while (told.size() < MOST_CALLS && !differs) {
            boolean building = told.size() < early ? !maybe(5) : maybe(6);
            if (building) {
                build(random.nextInt(16));
            } else if (maybe(2)) {
                askInstrumentAndTables(random.nextInt(13));
            } else {
                askPlate(random.nextInt(21));
            }
        }
    }

    private static Object answerOf(Method method, Object on, Object[] numbers) throws Exception {
        try {
            return method.invoke(on, numbers);
        } catch (InvocationTargetException e) {
            return e.getCause().getClass();
        }
    }

    private void call(String called, Object... numbers) throws Exception {
        if (told.size() >= MOST_CALLS || differs) {
            return;
        }
        spoil(numbers);
        Object got = answerOf(FACE.get(called), x, numbers);
        Object want = answerOf(MODEL.get(called), model, numbers);
        CALLED.add(called);
        String row = called + Arrays.toString(numbers) + " answered " + got + ", due is " + want;
        told.add(row);
        differs = !Objects.equals(got, want);
        Checks.due(name + " " + row, !differs, true);
        if (differs) {
            told.forEach(System.out::println);
        }
    }

    private void spoil(Object[] numbers) {
        int n = numbers.length == 0 ? 0 : random.nextInt(numbers.length);
        if (maybe(25) && numbers.length > 0 && numbers[n] instanceof Integer) {
            numbers[n] = SPOILED[random.nextInt(SPOILED.length)];
        }
    }

    private int from(int low, int high) {
        return low + random.nextInt(high - low + 1);
    }

    private boolean maybe(int of) {
        return random.nextInt(of) == 0;
    }

    /** Most often one that is there. */
    private int oneOf(int many) {
        return many == 0 || maybe(40) ? from(-1, many + 1) : random.nextInt(many);
    }

    private int somePlate() {
        return oneOf(model.now.plates.size());
    }

    private int someElement() {
        return oneOf(model.now.air.size());
    }

    private int someMaker() {
        return oneOf(model.now.makers.size());
    }

    private int someLine(int element) {
        return oneOf(model.linesOf(element).size());
    }

    /** Often one that explains a plate, since most sets explain none. */
    private int someSet() {
        if (maybe(10)) {
            return random.nextInt();
        }
        int plates = model.now.plates.size();
        int fewest = maybe(3) && plates > 0 ? model.sets(random.nextInt(plates), 1) : -1;
        return fewest >= 0 ? fewest : from(0, 63);
    }

    private int someSpeed() {
        return maybe(3) ? from(-50, 50) : 0;
    }

    private int someOff() {
        return maybe(2) ? from(0, 60) : from(0, 999);
    }

    /** Often where a ghost of another reading would be. */
    private int somePlace() {
        List<Model.Reading> readings = model.now.readings;
        if (readings.isEmpty() || maybe(2)) {
            return from(0, 999);
        }
        Model.Reading r = readings.get(random.nextInt(readings.size()));
        int ghost = model.now.plates.get(r.plate()).ghost();
        return Math.max(0, Math.min(999, r.place() + (maybe(2) ? ghost : -ghost) + from(-2, 2)));
    }

    private int asWave(int wave) {
        return maybe(30) ? wave : Math.max(1000, Math.min(9999, wave));
    }

    /** Most often near a reading, as it is, at a speed, or with two figures changed. */
    private int someWave() {
        List<Model.Reading> readings = model.now.readings;
        if (readings.isEmpty() || maybe(6)) {
            return from(1000, 9999);
        }
        Model.Reading r = readings.get(random.nextInt(readings.size()));
        int wave = Model.waveAt(a, b, c, model.truePlace(r.place(), r.down())) + from(-3, 3);
        if (maybe(4)) {
            wave = wave * 1000 / (1000 + from(-50, 50));
        }
        if (maybe(5)) {
            int unit = new int[] {1, 10, 100}[random.nextInt(3)];
            wave += 9 * unit * (wave / unit % 10 - wave / unit / 10 % 10);
        }
        return asWave(wave);
    }

    private void build(int kind) throws Exception {
        switch (kind) {
            case 0:
                int period = from(2, 50);
                call("screw", period, maybe(2) ? 0 : from(0, 9), from(0, period - 1), maybe(2) ? 0 : from(0, 9));
                break;
            case 1: gauge(); break;
            case 2: call("error", maybe(4) ? from(0, 50) : from(0, 5)); break;
            case 3: case 4: known(); break;
            case 5: call("element", maybe(4)); break;
            case 6: case 7: case 8: call("line", someElement(), someWave(), from(1, 9)); break;
            case 9:
                int low = from(1000, 2500);
                call("plate", from(1, 9), from(1, 5), low, from(low, 9999), maybe(2) ? 0 : maybe(4) ? from(1, 3) : from(1, 500));
                break;
            case 10: case 11: case 12:
                int strength = maybe(3) ? 1 : maybe(3) ? from(6, 9) : from(1, 9);
                call("reading", somePlate(), somePlace(), maybe(2), strength, from(1, 9));
                break;
            case 13: bell(); break;
            case 14: claim(); break;
            default: goBack(); break;
        }
    }

    private void gauge() throws Exception {
        int first = from(0, 999);
        int second = from(0, 999);
        boolean firstDown = maybe(2);
        boolean secondDown = maybe(2);
        int apart = Math.abs(model.truePlace(first, firstDown) - model.truePlace(second, secondDown));
        call("gauge", first, firstDown, second, secondDown, apart + (maybe(4) ? from(-2, 2) : 0));
    }

    /** More than a few known lines seldom let a law hold once the screw was turned. */
    private void known() throws Exception {
        if (model.now.knowns.size() > 2 && !maybe(6)) {
            return;
        }
        int place = from(0, 999);
        boolean down = maybe(2);
        boolean spark = maybe(3);
        int slip = spark && maybe(3) ? from(-30, 30) : 0;
        int off = maybe(2) ? 0 : from(-model.now.error, model.now.error);
        call("known", place, down, asWave(Model.waveAt(a, b, c, model.truePlace(place, down) + slip) + off), spark);
    }

    private void bell() throws Exception {
        if (maybe(3)) {
            call("maker");
            return;
        }
        int low = maybe(2) ? 0 : from(0, 9);
        call("recipe", someMaker(), maybe(4) ? from(0, 5) : someElement(), low, maybe(30) ? from(0, 9) : from(low, 9));
    }

    /** What is fed behind the text must count for nothing once the end is told. */
    private void claim() throws Exception {
        String text = texts.some();
        call("end", 0);
        for (int at = 0; at < text.length(); at += 20) {
            int[] five = new int[5];
            for (int n = 0; n < 20; n++) {
                int sign = at + n < text.length() ? text.charAt(at + n) : random.nextInt(256);
                five[n / 4] |= sign << 24 - n % 4 * 8;
            }
            call("feed", five[0], five[1], five[2], five[3], five[4]);
        }
        call("end", text.length());
        call("claim");
        call("fault");
    }

    private void goBack() throws Exception {
        int kind = random.nextInt(8);
        if (kind < 3) {
            call("away");
        } else if (kind < 5) {
            call("image");
        } else if (kind < 6) {
            call("back");
        } else {
            call("count", from(-1, 11));
        }
    }

    private void askInstrumentAndTables(int kind) throws Exception {
        int element = someElement();
        switch (kind) {
            case 0: call("truly", from(0, 999), maybe(2)); break;
            case 1: call("fits"); break;
            case 2: call("fit", maybe(2) ? from(0, 30) : from(0, model.fits())); break;
            case 3: call("laws"); break;
            case 4: call("law", from(0, 2)); break;
            case 5: call("span", from(0, 999), maybe(2), maybe(2)); break;
            case 6: call("slipped"); break;
            case 7: call("look", oneOf(model.now.readings.size()), from(0, 8)); break;
            case 8: call("lies", element, someLine(element), from(-50, 50)); break;
            case 9: call("must", somePlate(), element, someLine(element)); break;
            case 10: call("near", element, someElement(), maybe(2) ? from(0, 20) : from(0, 999)); break;
            case 11:
                int low = from(1000, 4000);
                call("next", someSet(), someSet(), low, from(low, 9999));
                break;
            default: call("count", from(-1, 11)); break;
        }
    }

    private void askPlate(int kind) throws Exception {
        int plate = somePlate();
        int set = someSet();
        switch (kind) {
            case 0: call("explains", plate, set, someSpeed()); break;
            case 1: case 2: call("sets", plate, from(0, 3)); break;
            case 3: call("left", plate, set, someSpeed()); break;
            case 4: call("missed", plate, set, someSpeed()); break;
            case 5: call("speeds", plate, set, from(0, 2)); break;
            case 6: call("amount", plate, set, someElement(), maybe(2)); break;
            case 7: call("wide", plate, set, maybe(2)); break;
            case 8: call("rows", plate, maybe(2) ? 0 : set, someOff(), maybe(2)); break;
            case 9: call("misprint", plate, someElement()); break;
            case 10: call("alike", plate, somePlate()); break;
            case 11: call("stars", plate, set, someSet(), from(0, 2)); break;
            case 12: call("drift", plate, set, maybe(2)); break;
            case 13: case 14: call("chance", plate, set, someMaker(), maybe(2)); break;
            case 15: call("likely", plate, set); break;
            case 16: call("forged", plate, set, someMaker()); break;
            case 17: call("sums", plate, maybe(2) ? 0 : set, someOff()); break;
            case 18: call("grain", plate, set); break;
            default: call("holds", oneOf(model.now.claims.size()), plate); break;
        }
    }

    /** Texts by the grammar, many of them with something wrong. */
    private static final class Texts {
        private static final String[] WORDS = {"sets", "fewest", "readings", "ghosts", "laws"};
        private static final String STRANGE = "ax 019()<>+A\u00ff\u0000";
        private static final int LONGEST = 400;

        private final Random random;

        Texts(Random random) {
            this.random = random;
        }

        private boolean maybe(int of) {
            return random.nextInt(of) == 0;
        }

        String some() {
            String text = blanks() + any(0) + blanks();
            text = cut(maybe(8) ? deeper(text) : text);
            for (int n = maybe(3) ? 1 + random.nextInt(2) : 0; n > 0 && !text.isEmpty(); n--) {
                int at = random.nextInt(text.length());
                String instead = maybe(2) ? "" : "" + STRANGE.charAt(random.nextInt(STRANGE.length()));
                text = text.substring(0, at) + instead + text.substring(at + random.nextInt(2));
            }
            return cut(text);
        }

        private String cut(String text) {
            return text.length() > LONGEST ? text.substring(0, LONGEST - random.nextInt(20)) : text;
        }

        private String deeper(String text) {
            String deep = text;
            for (int n = 1 + random.nextInt(8); n > 0; n--) {
                deep = maybe(2) ? "not " + deep : "(" + deep + (maybe(12) ? "" : ")");
            }
            return deep;
        }

        private String blanks() {
            return maybe(3) ? "" : maybe(6) ? "  " : " ";
        }

        private String number(int most) {
            return (maybe(12) ? "0" : "") + (maybe(3) ? random.nextInt(13) : random.nextInt(most + 1));
        }

        private String part() {
            return maybe(2) ? number(maybe(20) ? 20000 : 99) : WORDS[random.nextInt(WORDS.length)];
        }

        private String sum() {
            StringBuilder sum = new StringBuilder(part());
            while (maybe(3)) {
                sum.append(blanks()).append('+').append(blanks()).append(part());
            }
            return sum.toString();
        }

        private String atom(int deep) {
            switch (random.nextInt(deep > 8 ? 4 : 7)) {
                case 0: return "sure" + blanks() + number(maybe(6) ? 9 : 5);
                case 1: return "may" + blanks() + number(maybe(6) ? 9 : 5);
                case 2: return sum() + blanks() + "<" + blanks() + sum();
                case 3: return sum() + blanks() + ">" + blanks() + sum();
                case 4: return "not " + blanks() + atom(deep + 1);
                default: return "(" + blanks() + any(deep + 1) + blanks() + ")";
            }
        }

        private String any(int deep) {
            StringBuilder any = new StringBuilder(atom(deep));
            while (maybe(deep > 3 ? 5 : 3)) {
                any.append(maybe(2) ? " and " : " or ").append(atom(deep));
            }
            return any.toString();
        }
    }
}
