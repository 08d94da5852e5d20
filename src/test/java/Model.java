import java.math.BigInteger;
import java.nio.ByteBuffer;
import java.nio.charset.StandardCharsets;
import java.util.ArrayList;
import java.util.Arrays;
import java.util.List;
import java.util.NoSuchElementException;
import java.util.Set;
import java.util.TreeSet;

/**
 * The whole face once more, with what is thrown, the tape and the image, for WholeRunsTest. It goes by the
 * document's words, uses nothing of Oracle, keeps nothing that it has worked out, and takes the shortest way.
 */
public final class Model {
    record Gauge(int first, boolean firstDown, int second, boolean secondDown, int apart) { }

    record Known(int place, boolean down, int wave, boolean spark) { }

    /** A law with each A from the least to the greatest. */
    record Laws(int b, int c, int least, int greatest) { }

    record Line(int element, int number, int wave, int strength) { }

    record Plate(int time, int slit, int from, int to, int ghost) {
        boolean must(Line line) {
            return !out(line.wave, from, to) && line.strength * time * slit >= 30;
        }
    }

    record Reading(int plate, int place, boolean down, int strength, int width) { }

    record Span(int low, int high) {
        boolean has(Line line) {
            return has(line.wave);
        }

        boolean has(int wave) {
            return low <= wave && wave <= high;
        }
    }

    /** All that the image keeps. */
    static final class Things {
        int period = 10;
        int wear;
        int phase;
        int lag;
        int error = 2;
        List<Gauge> gauges = new ArrayList<>();
        List<Known> knowns = new ArrayList<>();
        List<Boolean> air = new ArrayList<>();
        List<Line> lines = new ArrayList<>();
        List<Plate> plates = new ArrayList<>();
        List<Reading> readings = new ArrayList<>();
        /** For each maker the least of each element, then the greatest of each. */
        List<int[]> makers = new ArrayList<>();
        List<List<String>> claims = new ArrayList<>();

        Things copy() {
            Things other = new Things();
            other.period = period;
            other.wear = wear;
            other.phase = phase;
            other.lag = lag;
            other.error = error;
            other.gauges.addAll(gauges);
            other.knowns.addAll(knowns);
            other.air.addAll(air);
            other.lines.addAll(lines);
            other.plates.addAll(plates);
            other.readings.addAll(readings);
            makers.forEach(recipe -> other.makers.add(recipe.clone()));
            other.claims.addAll(claims);
            return other;
        }
    }

    Things now = new Things();
    private Things image;
    private byte[] tape = new byte[0];
    private int fault = -1;

    private static void illegal(boolean wrong) {
        if (wrong) {
            throw new IllegalArgumentException();
        }
    }

    private static void index(boolean wrong) {
        if (wrong) {
            throw new IndexOutOfBoundsException();
        }
    }

    private static void full(boolean wrong) {
        if (wrong) {
            throw new UnsupportedOperationException();
        }
    }

    private static void noSuch(boolean wrong) {
        if (wrong) {
            throw new NoSuchElementException();
        }
    }

    private static boolean out(int number, int low, int high) {
        return number < low || number > high;
    }

    private static boolean in(int bits, int n) {
        return (bits >> n & 1) == 1;
    }

    private void wantPlate(int plate) {
        index(out(plate, 0, now.plates.size() - 1));
    }

    private void wantElement(int element) {
        index(out(element, 0, now.air.size() - 1));
    }

    private void wantMaker(int maker) {
        index(out(maker, 0, now.makers.size() - 1));
    }

    public int feed(int a, int b, int c, int d, int e) {
        if (tape.length + 20 > 400) {
            return -1;
        }
        ByteBuffer bytes = ByteBuffer.allocate(tape.length + 20);
        bytes.put(tape).putInt(a).putInt(b).putInt(c).putInt(d).putInt(e);
        tape = bytes.array();
        return tape.length;
    }

    public boolean end(int n) {
        if (out(n, 0, tape.length)) {
            return false;
        }
        tape = Arrays.copyOf(tape, n);
        return true;
    }

    public void screw(int period, int wear, int phase, int lag) {
        illegal(out(period, 2, 50) || out(wear, 0, 9) || phase < 0 || phase >= period || out(lag, 0, 9));
        now.period = period;
        now.wear = wear;
        now.phase = phase;
        now.lag = lag;
    }

    private int truePlace(int place, boolean down, int wear, int phase, int lag) {
        int turn = ((place - phase) % now.period + now.period) % now.period;
        return place + (turn < now.period / 2 ? wear : -wear) + (down ? lag : 0);
    }

    int truePlace(int place, boolean down) {
        return truePlace(place, down, now.wear, now.phase, now.lag);
    }

    public int truly(int place, boolean down) {
        illegal(out(place, 0, 999));
        return truePlace(place, down);
    }

    public int gauge(int first, boolean firstDown, int second, boolean secondDown, int apart) {
        illegal(out(first, 0, 999) || out(second, 0, 999) || out(apart, 0, 1200));
        full(now.gauges.size() == 8);
        now.gauges.add(new Gauge(first, firstDown, second, secondDown, apart));
        return now.gauges.size();
    }

    private boolean isFit(int wear, int lag, int phase) {
        for (Gauge g : now.gauges) {
            int first = truePlace(g.first, g.firstDown, wear, phase, lag);
            int second = truePlace(g.second, g.secondDown, wear, phase, lag);
            if (out(Math.abs(first - second), g.apart - 1, g.apart + 1)) {
                return false;
            }
        }
        return true;
    }

    private List<Integer> allFits() {
        List<Integer> all = new ArrayList<>();
        for (int wear = 0; wear <= 9; wear++) {
            for (int lag = 0; lag <= 9; lag++) {
                for (int phase = 0; phase < now.period; phase++) {
                    if ((wear > 0 || phase == 0) && isFit(wear, lag, phase)) {
                        all.add(1000 * wear + 100 * lag + phase);
                    }
                }
            }
        }
        return all;
    }

    public int fits() {
        return allFits().size();
    }

    public int fit(int i) {
        List<Integer> all = allFits();
        return out(i, 0, all.size() - 1) ? -1 : all.get(i);
    }

    public void error(int n) {
        illegal(out(n, 0, 50));
        now.error = n;
    }

    public int known(int place, boolean down, int wave, boolean spark) {
        illegal(out(place, 0, 999) || out(wave, 1000, 9999));
        full(now.knowns.size() == 10);
        now.knowns.add(new Known(place, down, wave, spark));
        return now.knowns.size();
    }

    static int waveAt(long a, long b, long c, long place) {
        return (int) (a + Math.floorDiv(1000 * b * place + c * place * place, 10000L));
    }

    private List<Laws> allLaws(int slip) {
        List<Laws> all = new ArrayList<>();
        for (int b = 1; b <= 90; b++) {
            for (int c = -9; c <= 9; c++) {
                int least = 0;
                int greatest = 9999;
                for (Known k : now.knowns) {
                    int rest = k.wave - waveAt(0, b, c, truePlace(k.place, k.down) + (k.spark ? slip : 0));
                    least = Math.max(least, rest - now.error);
                    greatest = Math.min(greatest, rest + now.error);
                }
                if (least <= greatest) {
                    all.add(new Laws(b, c, least, greatest));
                }
            }
        }
        return all;
    }

    public int laws() {
        return allLaws(0).stream().mapToInt(law -> law.greatest - law.least + 1).sum();
    }

    public int law(int what) {
        noSuch(out(what, 0, 2));
        List<Laws> all = allLaws(0);
        if (all.isEmpty()) {
            return 99999;
        }
        return new int[] {all.get(0).least, all.get(0).b, all.get(0).c}[what];
    }

    private Span spanAt(List<Laws> laws, int place) {
        if (laws.isEmpty()) {
            return null;
        }
        int low = laws.stream().mapToInt(law -> waveAt(law.least, law.b, law.c, place)).min().getAsInt();
        int high = laws.stream().mapToInt(law -> waveAt(law.greatest, law.b, law.c, place)).max().getAsInt();
        return new Span(low - now.error, high + now.error);
    }

    public int span(int place, boolean down, boolean most) {
        illegal(out(place, 0, 999));
        Span span = spanAt(allLaws(0), truePlace(place, down));
        return span == null ? -99999 : most ? span.high : span.low;
    }

    public int slipped() {
        for (int far = 0; far <= 30; far++) {
            if (!allLaws(-far).isEmpty()) {
                return -far;
            }
            if (!allLaws(far).isEmpty()) {
                return far;
            }
        }
        return 99;
    }

    public int element(boolean air) {
        full(now.air.size() == 6);
        now.air.add(air);
        return now.air.size() - 1;
    }

    List<Line> linesOf(int element) {
        return now.lines.stream().filter(line -> line.element == element).toList();
    }

    public int line(int element, int wave, int strength) {
        wantElement(element);
        illegal(out(wave, 1000, 9999) || out(strength, 1, 9));
        int number = linesOf(element).size();
        full(number == 6);
        now.lines.add(new Line(element, number, wave, strength));
        return number;
    }

    public int plate(int time, int slit, int from, int to, int ghost) {
        illegal(out(time, 1, 9) || out(slit, 1, 5) || out(ghost, 0, 500));
        illegal(out(from, 1000, 9999) || out(to, from, 9999));
        full(now.plates.size() == 3);
        now.plates.add(new Plate(time, slit, from, to, ghost));
        return now.plates.size() - 1;
    }

    public int reading(int plate, int place, boolean down, int strength, int width) {
        wantPlate(plate);
        illegal(out(place, 0, 999) || out(strength, 1, 9) || out(width, 1, 9));
        full(now.readings.size() == 24);
        now.readings.add(new Reading(plate, place, down, strength, width));
        return now.readings.size() - 1;
    }

    private boolean mayBeGhost(int reading) {
        Reading one = now.readings.get(reading);
        int ghost = now.plates.get(one.plate).ghost;
        for (int n = 0; n < now.readings.size(); n++) {
            Reading other = now.readings.get(n);
            if (ghost > 0 && n != reading && other.plate == one.plate && other.strength >= 7
                    && !out(Math.abs(other.place - one.place), ghost - 1, ghost + 1)) {
                return true;
            }
        }
        return false;
    }

    public int look(int reading, int what) {
        index(out(reading, 0, now.readings.size() - 1));
        noSuch(out(what, 0, 8));
        Reading r = now.readings.get(reading);
        int place = truePlace(r.place, r.down);
        Span span = spanAt(allLaws(0), place);
        int low = span == null ? -99999 : span.low;
        int high = span == null ? -99999 : span.high;
        int ghost = mayBeGhost(reading) ? 1 : 0;
        return new int[] {r.plate, r.place, r.down ? 1 : 0, r.strength, r.width, place, low, high, ghost}[what];
    }

    public int away() {
        if (now.readings.isEmpty()) {
            return -1;
        }
        now.readings.remove(now.readings.size() - 1);
        return now.readings.size();
    }

    /** The line as it lies at the speed. */
    private Line shifted(Line line, int speed) {
        int wave = now.air.get(line.element) ? line.wave : line.wave * (1000 + speed) / 1000;
        return new Line(line.element, line.number, wave, line.strength);
    }

    public int lies(int element, int line, int speed) {
        wantElement(element);
        index(out(line, 0, linesOf(element).size() - 1));
        illegal(out(speed, -50, 50));
        return shifted(linesOf(element).get(line), speed).wave;
    }

    public boolean must(int plate, int element, int line) {
        wantPlate(plate);
        wantElement(element);
        index(out(line, 0, linesOf(element).size() - 1));
        return now.plates.get(plate).must(linesOf(element).get(line));
    }

    /** Of each reading its span; null of one of another plate, too. */
    private Span[] spans(int plate, int ticks) {
        List<Laws> laws = allLaws(0);
        Span[] spans = new Span[now.readings.size()];
        for (int n = 0; n < spans.length; n++) {
            Reading r = now.readings.get(n);
            spans[n] = r.plate == plate ? spanAt(laws, truePlace(r.place, r.down) + ticks) : null;
        }
        return spans;
    }

    /** Lines of the set and of air, as they lie at the speed. */
    private List<Line> linesOf(int set, int speed) {
        List<Line> some = new ArrayList<>();
        for (Line line : now.lines) {
            if (in(set, line.element) || now.air.get(line.element)) {
                some.add(shifted(line, speed));
            }
        }
        return some;
    }

    private static boolean hasOne(Span span, List<Line> lines) {
        return span != null && lines.stream().anyMatch(span::has);
    }

    private static boolean isSeen(Line line, Span[] spans) {
        return Arrays.stream(spans).anyMatch(span -> span != null && span.has(line));
    }

    private int leftBy(int plate, List<Line> lines, Span[] spans) {
        int bits = 0;
        for (int n = 0; n < spans.length; n++) {
            if (now.readings.get(n).plate == plate && !mayBeGhost(n) && !hasOne(spans[n], lines)) {
                bits |= 1 << n;
            }
        }
        return bits;
    }

    private int missedBy(int plate, List<Line> lines, Span[] spans) {
        Plate p = now.plates.get(plate);
        return (int) lines.stream().filter(line -> p.must(line) && !isSeen(line, spans)).count();
    }

    private boolean explainedBy(int plate, List<Line> lines, Span[] spans) {
        return leftBy(plate, lines, spans) == 0 && missedBy(plate, lines, spans) == 0;
    }

    public boolean explains(int plate, int set, int speed) {
        wantPlate(plate);
        illegal(out(speed, -50, 50));
        return explainedBy(plate, linesOf(set, speed), spans(plate, 0));
    }

    private List<Integer> allSets(int plate) {
        Span[] spans = spans(plate, 0);
        List<Integer> all = new ArrayList<>();
        for (int set = 0; set < 1 << now.air.size(); set++) {
            boolean told = true;
            for (int e = 0; e < now.air.size(); e++) {
                told &= !in(set, e) || !now.air.get(e);
            }
            if (told && explainedBy(plate, linesOf(set, 0), spans)) {
                all.add(set);
            }
        }
        return all;
    }

    private static int fewestOf(List<Integer> sets) {
        for (int many = 0; many <= 6; many++) {
            for (int set : sets) {
                if (Integer.bitCount(set) == many) {
                    return set;
                }
            }
        }
        return -1;
    }

    public int sets(int plate, int what) {
        wantPlate(plate);
        noSuch(out(what, 0, 3));
        List<Integer> all = allSets(plate);
        int sure = all.stream().reduce(-1, (one, other) -> one & other);
        int may = all.stream().reduce(0, (one, other) -> one | other);
        return new int[] {all.size(), fewestOf(all), all.isEmpty() ? 0 : sure, may}[what];
    }

    public int left(int plate, int set, int speed) {
        wantPlate(plate);
        illegal(out(speed, -50, 50));
        return leftBy(plate, linesOf(set, speed), spans(plate, 0));
    }

    public int missed(int plate, int set, int speed) {
        wantPlate(plate);
        illegal(out(speed, -50, 50));
        return missedBy(plate, linesOf(set, speed), spans(plate, 0));
    }

    public int speeds(int plate, int set, int what) {
        wantPlate(plate);
        noSuch(out(what, 0, 2));
        Span[] spans = spans(plate, 0);
        List<Integer> all = new ArrayList<>();
        for (int speed = -50; speed <= 50; speed++) {
            if (explainedBy(plate, linesOf(set, speed), spans)) {
                all.add(speed);
            }
        }
        if (all.isEmpty()) {
            return what == 0 ? 0 : 99;
        }
        return new int[] {all.size(), all.get(0), all.get(all.size() - 1)}[what];
    }

    private static int shows(int strength, int amount) {
        int shown = Math.min(9, strength * amount / 5);
        return amount > 6 && strength >= 7 ? Math.max(0, shown - 2 * (amount - 6)) : shown;
    }

    private boolean amountFits(Line line, int amount, List<Line> all, Span[] spans) {
        for (int n = 0; n < spans.length; n++) {
            Span span = spans[n];
            if (span != null && span.has(line) && all.stream().filter(span::has).count() == 1
                    && Math.abs(now.readings.get(n).strength - shows(line.strength, amount)) > 1) {
                return false;
            }
        }
        return true;
    }

    private List<Integer> amounts(int plate, int set, int element) {
        Span[] spans = spans(plate, 0);
        List<Line> all = linesOf(set | 1 << element, 0);
        List<Integer> fit = new ArrayList<>();
        for (int n = 1; n <= 9; n++) {
            int amount = n;
            if (linesOf(element).stream().filter(now.plates.get(plate)::must)
                    .allMatch(line -> amountFits(line, amount, all, spans))) {
                fit.add(amount);
            }
        }
        return fit;
    }

    public int amount(int plate, int set, int element, boolean most) {
        wantPlate(plate);
        wantElement(element);
        List<Integer> fit = amounts(plate, set, element);
        return fit.isEmpty() ? -1 : fit.get(most ? fit.size() - 1 : 0);
    }

    public int wide(int plate, int set, boolean shared) {
        wantPlate(plate);
        Span[] spans = spans(plate, 0);
        int bits = 0;
        for (int n = 0; n < spans.length; n++) {
            Span span = spans[n];
            Reading r = now.readings.get(n);
            List<Line> inside = linesOf(set, 0).stream().filter(line -> span != null && span.has(line)).toList();
            boolean wide = r.plate == plate && r.width > now.plates.get(plate).slit && inside.size() < 2;
            boolean isShared = inside.stream().map(Line::element).distinct().count() > 1;
            bits |= (shared ? isShared : wide) ? 1 << n : 0;
        }
        return bits;
    }

    private List<Integer> numbers(int plate, int set) {
        Span[] spans = spans(plate, 0);
        int left = leftBy(plate, linesOf(set, 0), spans);
        List<Integer> numbers = new ArrayList<>();
        for (int n = 0; n < spans.length; n++) {
            int middle = spans[n] == null ? 0 : spans[n].low + spans[n].high >> 1;
            if (in(left, n) && middle >= 1 && numbers.size() < 10) {
                numbers.add(10000000 / middle);
            }
        }
        return numbers;
    }

    private static int mostPairs(List<Integer> numbers, int used, int least, int greatest) {
        int one = Integer.numberOfTrailingZeros(~used);
        if (one >= numbers.size()) {
            return 0;
        }
        int best = mostPairs(numbers, used | 1 << one, least, greatest);
        for (int other = one + 1; other < numbers.size(); other++) {
            if (!in(used, other) && !out(Math.abs(numbers.get(one) - numbers.get(other)), least, greatest)) {
                best = Math.max(best, 1 + mostPairs(numbers, used | 1 << one | 1 << other, least, greatest));
            }
        }
        return best;
    }

    public int rows(int plate, int set, int off, boolean step) {
        wantPlate(plate);
        illegal(out(off, 0, 999));
        List<Integer> numbers = numbers(plate, set);
        Set<Integer> steps = new TreeSet<>();
        numbers.forEach(one -> numbers.forEach(other -> steps.add(Math.abs(one - other))));
        steps.remove(0);
        int best = 0;
        int begin = -1;
        for (int least : steps) {
            int pairs = mostPairs(numbers, 0, least, least + off);
            if (pairs > best) {
                best = pairs;
                begin = least;
            }
        }
        return step ? begin : best;
    }

    private boolean parts(Plate plate, int one, int other) {
        List<Line> there = linesOf(other, 0);
        return linesOf(one, 0).stream().anyMatch(line -> plate.must(line)
            && there.stream().allMatch(far -> Math.abs(far.wave - line.wave) > 2 * plate.slit));
    }

    public int next(int a, int b, int from, int to) {
        illegal(out(from, 1000, 9999) || out(to, from, 9999));
        for (int time = 1; time <= 9; time++) {
            for (int slit = 1; slit <= 5; slit++) {
                Plate plate = new Plate(time, slit, from, to, 0);
                if (parts(plate, a, b) || parts(plate, b, a)) {
                    return 10 * time + slit;
                }
            }
        }
        return -1;
    }

    private static boolean isMisprintOf(int wave, Span span) {
        String figures = String.valueOf(wave);
        for (int n = 0; n < 3; n++) {
            String changed = figures.substring(0, n) + figures.charAt(n + 1) + figures.charAt(n) + figures.substring(n + 2);
            if (span != null && span.has(Integer.parseInt(changed))) {
                return true;
            }
        }
        return false;
    }

    public int misprint(int plate, int element) {
        wantPlate(plate);
        wantElement(element);
        Span[] spans = spans(plate, 0);
        int left = leftBy(plate, linesOf(1 << element, 0), spans);
        for (Line line : linesOf(element)) {
            boolean misses = now.plates.get(plate).must(line) && !isSeen(line, spans);
            for (int n = 0; misses && n < spans.length; n++) {
                if (in(left, n) && isMisprintOf(line.wave, spans[n])) {
                    return 32 * line.number + n;
                }
            }
        }
        return -1;
    }

    public int alike(int first, int second) {
        wantPlate(first);
        wantPlate(second);
        Span[] firsts = spans(first, 0);
        Span[] seconds = spans(second, 0);
        int bits = 0;
        for (int n = 0; n < firsts.length; n++) {
            for (Span other : seconds) {
                if (firsts[n] != null && other != null
                        && Math.max(firsts[n].low, other.low) <= Math.min(firsts[n].high, other.high)) {
                    bits |= 1 << n;
                }
            }
        }
        return bits;
    }

    /** For each speed what a set leaves; -1 where it misses a line. */
    private int[] leftBySpeed(int plate, int set, Span[] spans) {
        int[] left = new int[101];
        for (int n = 0; n < left.length; n++) {
            List<Line> lines = linesOf(set, n - 50);
            left[n] = missedBy(plate, lines, spans) > 0 ? -1 : leftBy(plate, lines, spans);
        }
        return left;
    }

    public int stars(int plate, int first, int second, int what) {
        wantPlate(plate);
        noSuch(out(what, 0, 2));
        Span[] spans = spans(plate, 0);
        int[] firsts = leftBySpeed(plate, first, spans);
        int[] seconds = leftBySpeed(plate, second, spans);
        int[] found = {0, 99, 99};
        for (int one = 100; one >= 0; one--) {
            for (int other = 100; other >= 0; other--) {
                if (firsts[one] != -1 && seconds[other] != -1 && (firsts[one] & seconds[other]) == 0) {
                    found = new int[] {found[0] + 1, one - 50, other - 50};
                }
            }
        }
        return found[what];
    }

    public int drift(int plate, int set, boolean near) {
        wantPlate(plate);
        List<Line> lines = linesOf(set, 0);
        int many = 0;
        int nearest = 99;
        for (int ticks = -30; ticks <= 30; ticks++) {
            if (explainedBy(plate, lines, spans(plate, ticks))) {
                many++;
                nearest = Math.abs(ticks) < Math.abs(nearest) ? ticks : nearest;
            }
        }
        return near ? nearest : many;
    }

    public int maker() {
        full(now.makers.size() == 4);
        now.makers.add(new int[] {0, 0, 0, 0, 0, 0, 9, 9, 9, 9, 9, 9});
        return now.makers.size() - 1;
    }

    public void recipe(int maker, int element, int low, int high) {
        wantMaker(maker);
        index(out(element, 0, 5));
        illegal(low < 0 || high < low || high > 9);
        now.makers.get(maker)[element] = low;
        now.makers.get(maker)[6 + element] = high;
    }

    private long[] chanceOf(int plate, int set, int maker) {
        int[] recipe = now.makers.get(maker);
        long above = 1;
        long below = 1;
        for (int e = 0; e < now.air.size(); e++) {
            int low = recipe[e];
            int high = recipe[6 + e];
            if (!now.air.get(e) && in(set, e)) {
                List<Integer> fit = amounts(plate, set, e);
                above *= fit.stream().filter(amount -> !out(amount, low, high)).count();
                below *= Math.max(1, fit.size());
            } else if (!now.air.get(e) && low > 0) {
                above = 0;
            }
        }
        long common = BigInteger.valueOf(above).gcd(BigInteger.valueOf(below)).longValue();
        return new long[] {above / common, below / common};
    }

    public int chance(int plate, int set, int maker, boolean below) {
        wantPlate(plate);
        wantMaker(maker);
        return (int) chanceOf(plate, set, maker)[below ? 1 : 0];
    }

    private boolean isGreater(long[] one, long[] other) {
        return one[0] * other[1] > other[0] * one[1];
    }

    public int likely(int plate, int set) {
        wantPlate(plate);
        int best = -1;
        long[] greatest = {0, 1};
        for (int m = 0; m < now.makers.size(); m++) {
            if (isGreater(chanceOf(plate, set, m), greatest)) {
                best = m;
                greatest = chanceOf(plate, set, m);
            }
        }
        return best;
    }

    public boolean forged(int plate, int set, int maker) {
        wantPlate(plate);
        wantMaker(maker);
        boolean beaten = false;
        for (int m = 0; m < now.makers.size(); m++) {
            beaten |= isGreater(chanceOf(plate, set, m), chanceOf(plate, set, maker));
        }
        return beaten;
    }

    public int sums(int plate, int set, int off) {
        wantPlate(plate);
        illegal(out(off, 0, 999));
        List<Integer> numbers = numbers(plate, set);
        int many = 0;
        for (int bits = 0; bits < 1 << numbers.size(); bits++) {
            int all = 0;
            boolean sum = false;
            for (int n = 0; n < numbers.size(); n++) {
                all += in(bits, n) ? numbers.get(n) : 0;
            }
            for (int n = 0; n < numbers.size(); n++) {
                sum |= in(bits, n) && Math.abs(numbers.get(n) - (all - numbers.get(n))) <= off;
            }
            many += Integer.bitCount(bits) == 3 && sum ? 1 : 0;
        }
        return many;
    }

    public int grain(int plate, int set) {
        wantPlate(plate);
        int bits = leftBy(plate, linesOf(set, 0), spans(plate, 0));
        for (int n = 0; n < now.readings.size(); n++) {
            bits &= now.readings.get(n).strength == 1 ? -1 : ~(1 << n);
        }
        return bits;
    }

    public int near(int element, int of, int by) {
        wantElement(element);
        wantElement(of);
        illegal(out(by, 0, 999));
        return (int) linesOf(element).stream()
            .filter(line -> linesOf(of).stream().anyMatch(other -> Math.abs(other.wave - line.wave) <= by)).count();
    }

    public int claim() {
        ModelText text = new ModelText(new String(tape, StandardCharsets.ISO_8859_1));
        tape = new byte[0];
        fault = text.firstWrong();
        illegal(fault != -1);
        full(now.claims.size() == 6);
        now.claims.add(text.signs);
        return now.claims.size() - 1;
    }

    public int fault() {
        return fault;
    }

    public boolean holds(int claim, int plate) {
        index(out(claim, 0, now.claims.size() - 1));
        wantPlate(plate);
        return isTrue(now.claims.get(claim), plate);
    }

    private boolean isTrue(List<String> signs, int plate) {
        List<List<String>> parts = ModelText.split(signs, "or");
        if (parts.size() > 1) {
            return parts.stream().anyMatch(part -> isTrue(part, plate));
        }
        parts = ModelText.split(signs, "and");
        if (parts.size() > 1) {
            return parts.stream().allMatch(part -> isTrue(part, plate));
        }
        switch (signs.get(0)) {
            case "not": return !isTrue(signs.subList(1, signs.size()), plate);
            case "(": return isTrue(signs.subList(1, signs.size() - 1), plate);
            case "sure": return in(sets(plate, 2), Integer.parseInt(signs.get(1)));
            case "may": return in(sets(plate, 3), Integer.parseInt(signs.get(1)));
            default: return isComparisonTrue(signs, plate);
        }
    }

    private boolean isComparisonTrue(List<String> signs, int plate) {
        boolean less = signs.contains("<");
        List<List<String>> sides = ModelText.split(signs, less ? "<" : ">");
        int one = sides.get(0).stream().mapToInt(part -> valueOf(part, plate)).sum();
        int other = sides.get(1).stream().mapToInt(part -> valueOf(part, plate)).sum();
        return less ? one < other : one > other;
    }

    private int valueOf(String part, int plate) {
        int readings = 0;
        int ghosts = 0;
        for (int n = 0; n < now.readings.size(); n++) {
            boolean on = now.readings.get(n).plate == plate;
            readings += on ? 1 : 0;
            ghosts += on && mayBeGhost(n) ? 1 : 0;
        }
        switch (part) {
            case "+": return 0;
            case "sets": return sets(plate, 0);
            case "fewest": return sets(plate, 0) == 0 ? 99 : Integer.bitCount(sets(plate, 1));
            case "readings": return readings;
            case "ghosts": return ghosts;
            case "laws": return Math.min(9999, laws());
            default: return Integer.parseInt(part);
        }
    }

    public void image() {
        image = now.copy();
    }

    public boolean back() {
        if (image == null) {
            return false;
        }
        now = image.copy();
        return true;
    }

    public int count(int what) {
        int ghosts = 0;
        int spans = 0;
        for (int n = 0; n < now.readings.size(); n++) {
            ghosts += mayBeGhost(n) ? 1 : 0;
            spans += look(n, 6) == -99999 ? 0 : 1;
        }
        int[] counts = {now.gauges.size(), now.knowns.size(), now.air.size(), now.lines.size(), now.plates.size(),
            now.readings.size(), ghosts, now.claims.size(), now.error, spans, now.makers.size()};
        return out(what, 0, 10) ? -1 : counts[what];
    }
}
