import java.util.ArrayList;
import java.util.List;
import java.util.TreeMap;

/**
 * A second program by the document's words, slow and plain, for OracleTest. Only what is worked out
 * is here: wrong inputs are PromisesTest's.
 */
final class Oracle {
    record Gauge(int first, boolean firstDown, int second, boolean secondDown, int apart) { }

    record Known(int place, boolean down, int wave, boolean spark) { }

    record Law(int a, int b, int c) {
        int at(long p) {
            return a + (int) Math.floor((1000.0 * b * p + 1.0 * c * p * p) / 10000.0);
        }
    }

    record Line(int element, int number, int wave, int strength) { }

    record Plate(int time, int slit, int from, int to, int ghost) { }

    record Reading(int plate, int place, boolean down, int strength, int width) { }

    record Span(int low, int high) {
        boolean holds(int wave) {
            return low <= wave && wave <= high;
        }
    }

    int period = 10;
    int wear;
    int phase;
    int lag;
    int error = 2;
    final List<Gauge> gauges = new ArrayList<>();
    final List<Known> knowns = new ArrayList<>();
    final List<Boolean> air = new ArrayList<>();
    final List<Line> lines = new ArrayList<>();
    final List<Plate> plates = new ArrayList<>();
    final List<Reading> readings = new ArrayList<>();
    final List<int[][]> makers = new ArrayList<>();
    private List<Law> cachedLaws;
    private final TreeMap<Integer, Span> cachedSpans = new TreeMap<>();

    void changed() {
        cachedLaws = null;
        cachedSpans.clear();
    }

    static int truePlace(int place, boolean down, int period, int wear, int phase, int lag) {
        int m = place - phase;
        while (m < 0) {
            m += period;
        }
        m %= period;
        int t = place;
        if (m < period / 2) {
            t += wear;
        } else {
            t -= wear;
        }
        if (down) {
            t += lag;
        }
        return t;
    }

    int truly(int place, boolean down) {
        return truePlace(place, down, period, wear, phase, lag);
    }

    List<Integer> fits() {
        List<Integer> all = new ArrayList<>();
        for (int w = 0; w <= 9; w++) {
            for (int l = 0; l <= 9; l++) {
                for (int p = 0; p < (w == 0 ? 1 : period); p++) {
                    boolean good = true;
                    for (Gauge g : gauges) {
                        int one = truePlace(g.first, g.firstDown, period, w, p, l);
                        int two = truePlace(g.second, g.secondDown, period, w, p, l);
                        int apart = one > two ? one - two : two - one;
                        good &= apart == g.apart || apart == g.apart - 1 || apart == g.apart + 1;
                    }
                    if (good) {
                        all.add(1000 * w + 100 * l + p);
                    }
                }
            }
        }
        return all;
    }

    private boolean holds(Law law, int slip) {
        for (Known k : knowns) {
            int p = truly(k.place, k.down) + (k.spark ? slip : 0);
            if (Math.abs(law.at(p) - k.wave) > error) {
                return false;
            }
        }
        return true;
    }

    /** All laws in their order; asked for only where some line is known, which keeps A near one number. */
    private List<Law> lawsBy(int slip, boolean oneIsEnough) {
        List<Law> all = new ArrayList<>();
        Known k = knowns.get(0);
        int p = truly(k.place, k.down) + (k.spark ? slip : 0);
        for (int b = 1; b <= 90; b++) {
            for (int c = -9; c <= 9; c++) {
                int middle = k.wave - new Law(0, b, c).at(p);
                for (int a = Math.max(0, middle - error - 3); a <= Math.min(9999, middle + error + 3); a++) {
                    Law law = new Law(a, b, c);
                    if (holds(law, slip)) {
                        all.add(law);
                        if (oneIsEnough) {
                            return all;
                        }
                    }
                }
            }
        }
        return all;
    }

    List<Law> laws() {
        if (cachedLaws == null) {
            cachedLaws = lawsBy(0, false);
        }
        return cachedLaws;
    }

    int slipped() {
        int best = 99;
        for (int s = -30; s <= 30; s++) {
            if (Math.abs(s) < Math.abs(best) && !lawsBy(s, true).isEmpty()) {
                best = s;
            }
        }
        return best;
    }

    Span spanAt(int place) {
        if (laws().isEmpty()) {
            return null;
        }
        return cachedSpans.computeIfAbsent(place, p -> {
            int low = laws().stream().mapToInt(law -> law.at(p)).min().getAsInt();
            int high = laws().stream().mapToInt(law -> law.at(p)).max().getAsInt();
            return new Span(low - error, high + error);
        });
    }

    Span span(int reading, int ticks) {
        Reading r = readings.get(reading);
        return spanAt(truly(r.place, r.down) + ticks);
    }

    boolean ghost(int reading) {
        Reading r = readings.get(reading);
        int ghost = plates.get(r.plate).ghost;
        for (int o = 0; o < readings.size(); o++) {
            Reading other = readings.get(o);
            int apart = Math.abs(other.place - r.place);
            if (ghost > 0 && o != reading && other.plate == r.plate && other.strength >= 7
                    && Math.abs(apart - ghost) <= 1) {
                return true;
            }
        }
        return false;
    }

    int lies(Line line, int speed) {
        return air.get(line.element) ? line.wave : (int) Math.floor(line.wave * (1000.0 + speed) / 1000.0);
    }

    boolean must(Plate plate, int wave, int strength) {
        return plate.from <= wave && wave <= plate.to && strength * plate.time * plate.slit >= 30;
    }

    /** Lines of the set and of air. */
    List<Line> of(int set) {
        List<Line> some = new ArrayList<>();
        for (Line line : lines) {
            if ((set & 1 << line.element) != 0 || air.get(line.element)) {
                some.add(line);
            }
        }
        return some;
    }

    private List<Integer> waves(List<Line> some, int speed) {
        List<Integer> waves = new ArrayList<>();
        for (Line line : some) {
            waves.add(lies(line, speed));
        }
        return waves;
    }

    private boolean in(int wave, int reading, int ticks) {
        Span span = span(reading, ticks);
        return span != null && span.holds(wave);
    }

    List<Integer> on(int plate) {
        List<Integer> some = new ArrayList<>();
        for (int r = 0; r < readings.size(); r++) {
            if (readings.get(r).plate == plate) {
                some.add(r);
            }
        }
        return some;
    }

    private int leftOf(int plate, List<Integer> waves, int ticks) {
        int bits = 0;
        for (int r : on(plate)) {
            boolean lies = false;
            for (int wave : waves) {
                lies |= in(wave, r, ticks);
            }
            if (!lies && !ghost(r)) {
                bits |= 1 << r;
            }
        }
        return bits;
    }

    private int missedOf(int plate, List<Line> some, List<Integer> waves, int ticks) {
        int many = 0;
        for (int n = 0; n < some.size(); n++) {
            boolean lies = false;
            for (int r : on(plate)) {
                lies |= in(waves.get(n), r, ticks);
            }
            if (!lies && must(plates.get(plate), waves.get(n), some.get(n).strength)) {
                many++;
            }
        }
        return many;
    }

    int left(int plate, int set, int speed) {
        return leftOf(plate, waves(of(set), speed), 0);
    }

    int missed(int plate, int set, int speed) {
        return missedOf(plate, of(set), waves(of(set), speed), 0);
    }

    boolean explains(int plate, int set, int speed) {
        return left(plate, set, speed) == 0 && missed(plate, set, speed) == 0;
    }

    int drift(int plate, int set, boolean near) {
        int many = 0;
        int nearest = 99;
        for (int t = -30; t <= 30; t++) {
            List<Integer> waves = waves(of(set), 0);
            if (leftOf(plate, waves, t) == 0 && missedOf(plate, of(set), waves, t) == 0) {
                many++;
                nearest = Math.abs(t) < Math.abs(nearest) ? t : nearest;
            }
        }
        return near ? nearest : many;
    }

    int stars(int plate, int first, int second, int what) {
        List<Line> some = new ArrayList<>(of(first));
        some.addAll(of(second));
        int many = 0;
        int[] found = {99, 99};
        for (int v = -50; v <= 50; v++) {
            List<Integer> firstWaves = waves(of(first), v);
            if (missedOf(plate, of(first), firstWaves, 0) > 0) {
                continue;
            }
            for (int w = -50; w <= 50; w++) {
                List<Integer> waves = new ArrayList<>(firstWaves);
                waves.addAll(waves(of(second), w));
                if (leftOf(plate, waves, 0) == 0 && missedOf(plate, some, waves, 0) == 0) {
                    if (many == 0) {
                        found = new int[] {v, w};
                    }
                    many++;
                }
            }
        }
        return what == 0 ? many : found[what - 1];
    }

    int noAir() {
        int bits = 0;
        for (int e = 0; e < air.size(); e++) {
            bits |= air.get(e) ? 0 : 1 << e;
        }
        return bits;
    }

    int sets(int plate, int what) {
        List<Integer> all = new ArrayList<>();
        for (int set = 0; set < 64; set++) {
            if ((set & noAir()) == set && explains(plate, set, 0)) {
                all.add(set);
            }
        }
        int sure = all.isEmpty() ? 0 : 63;
        int may = 0;
        int fewest = -1;
        for (int set : all) {
            sure &= set;
            may |= set;
            if (fewest < 0 || Integer.bitCount(set) < Integer.bitCount(fewest)) {
                fewest = set;
            }
        }
        return new int[] {all.size(), fewest, sure, may}[what];
    }

    int speeds(int plate, int set, int what) {
        int many = 0;
        int least = 99;
        int greatest = 99;
        for (int v = 50; v >= -50; v--) {
            if (explains(plate, set, v)) {
                greatest = many == 0 ? v : greatest;
                least = v;
                many++;
            }
        }
        return new int[] {many, least, greatest}[what];
    }

    List<Integer> amounts(int plate, int set, int element) {
        List<Integer> fit = new ArrayList<>();
        List<Line> all = of(set | 1 << element);
        for (int amount = 1; amount <= 9; amount++) {
            boolean good = true;
            for (Line line : all) {
                if (line.element != element || !must(plates.get(plate), line.wave, line.strength)) {
                    continue;
                }
                int shows = line.strength * amount / 5;
                if (shows > 9) {
                    shows = 9;
                }
                for (int above = 7; above <= amount && line.strength >= 7; above++) {
                    shows -= 2;
                }
                if (shows < 0) {
                    shows = 0;
                }
                for (int r : on(plate)) {
                    boolean alone = in(line.wave, r, 0);
                    for (Line other : all) {
                        alone &= other == line || !in(other.wave, r, 0);
                    }
                    good &= !alone || Math.abs(readings.get(r).strength - shows) <= 1;
                }
            }
            if (good) {
                fit.add(amount);
            }
        }
        return fit;
    }

    int wide(int plate, int set, boolean shared) {
        int bits = 0;
        for (int r : on(plate)) {
            int many = 0;
            int elements = 0;
            for (Line line : of(set)) {
                if (in(line.wave, r, 0)) {
                    many++;
                    elements |= 1 << line.element;
                }
            }
            boolean wide = readings.get(r).width > plates.get(plate).slit && many < 2;
            if (shared ? Integer.bitCount(elements) > 1 : wide) {
                bits |= 1 << r;
            }
        }
        return bits;
    }

    List<Integer> numbers(int plate, int set) {
        List<Integer> numbers = new ArrayList<>();
        int left = left(plate, set, 0);
        for (int r = 0; r < readings.size(); r++) {
            if ((left & 1 << r) != 0 && span(r, 0) != null && numbers.size() < 10) {
                int middle = (int) Math.floor((span(r, 0).low + span(r, 0).high) / 2.0);
                if (middle >= 1) {
                    numbers.add(10000000 / middle);
                }
            }
        }
        return numbers;
    }

    private int most(List<Integer> free, int least, int greatest) {
        if (free.size() < 2) {
            return 0;
        }
        List<Integer> rest = new ArrayList<>(free.subList(1, free.size()));
        int best = most(rest, least, greatest);
        for (int n = 0; n < rest.size(); n++) {
            int step = Math.abs(free.get(0) - rest.get(n));
            if (step >= least && step <= greatest) {
                List<Integer> fewer = new ArrayList<>(rest);
                fewer.remove(n);
                best = Math.max(best, 1 + most(fewer, least, greatest));
            }
        }
        return best;
    }

    int rows(int plate, int set, int off, boolean step) {
        List<Integer> numbers = numbers(plate, set);
        TreeMap<Integer, Integer> bySteps = new TreeMap<>();
        for (int one : numbers) {
            for (int two : numbers) {
                if (one > two) {
                    bySteps.computeIfAbsent(one - two, s -> most(numbers, s, s + off));
                }
            }
        }
        int best = 0;
        int begin = -1;
        for (int s : bySteps.keySet()) {
            if (bySteps.get(s) > best) {
                best = bySteps.get(s);
                begin = s;
            }
        }
        return step ? begin : best;
    }

    int sums(int plate, int set, int off) {
        List<Integer> n = numbers(plate, set);
        int many = 0;
        for (int i = 0; i < n.size(); i++) {
            for (int j = i + 1; j < n.size(); j++) {
                for (int k = j + 1; k < n.size(); k++) {
                    int all = n.get(i) + n.get(j) + n.get(k);
                    boolean sum = false;
                    for (int one : new int[] {i, j, k}) {
                        sum |= Math.abs(2 * n.get(one) - all) <= off;
                    }
                    many += sum ? 1 : 0;
                }
            }
        }
        return many;
    }

    int grain(int plate, int set) {
        int bits = left(plate, set, 0);
        for (int r = 0; r < readings.size(); r++) {
            if (readings.get(r).strength != 1) {
                bits &= ~(1 << r);
            }
        }
        return bits;
    }

    int next(int a, int b, int from, int to) {
        for (int time = 1; time <= 9; time++) {
            for (int slit = 1; slit <= 5; slit++) {
                Plate plate = new Plate(time, slit, from, to, 0);
                for (int turn = 0; turn < 2; turn++) {
                    for (Line line : of(turn == 0 ? a : b)) {
                        boolean far = must(plate, line.wave, line.strength);
                        for (Line other : of(turn == 0 ? b : a)) {
                            far &= Math.abs(other.wave - line.wave) > 2 * slit;
                        }
                        if (far) {
                            return 10 * time + slit;
                        }
                    }
                }
            }
        }
        return -1;
    }

    int misprint(int plate, int element) {
        int left = left(plate, 1 << element, 0);
        for (Line line : lines) {
            if (line.element != element || !must(plates.get(plate), line.wave, line.strength)) {
                continue;
            }
            boolean lies = false;
            for (int r : on(plate)) {
                lies |= in(line.wave, r, 0);
            }
            for (int r : on(plate)) {
                for (int n = 0; n < 3 && !lies && (left & 1 << r) != 0; n++) {
                    char[] figures = String.valueOf(line.wave).toCharArray();
                    char figure = figures[n];
                    figures[n] = figures[n + 1];
                    figures[n + 1] = figure;
                    if (in(Integer.parseInt(new String(figures)), r, 0)) {
                        return 32 * line.number + r;
                    }
                }
            }
        }
        return -1;
    }

    int alike(int first, int second) {
        int bits = 0;
        for (int r : on(first)) {
            for (int s : on(second)) {
                if (span(r, 0) != null && span(s, 0) != null) {
                    for (int wave = span(r, 0).low; wave <= span(r, 0).high; wave++) {
                        if (in(wave, s, 0)) {
                            bits |= 1 << r;
                            break;
                        }
                    }
                }
            }
        }
        return bits;
    }

    long[] chance(int plate, int set, int maker) {
        long above = 1;
        long below = 1;
        boolean none = false;
        for (int e = 0; e < air.size(); e++) {
            int low = makers.get(maker)[e][0];
            int high = makers.get(maker)[e][1];
            if (air.get(e)) {
                continue;
            }
            if ((set & 1 << e) == 0) {
                none |= low > 0;
                continue;
            }
            List<Integer> fit = amounts(plate, set, e);
            none |= fit.isEmpty();
            above *= fit.stream().filter(a -> a >= low && a <= high).count();
            below *= fit.size();
        }
        if (none || above == 0) {
            return new long[] {0, 1};
        }
        for (long part = 2; part <= above; part++) {
            while (above % part == 0 && below % part == 0) {
                above /= part;
                below /= part;
            }
        }
        return new long[] {above, below};
    }

    private double share(int plate, int set, int maker) {
        long[] chance = chance(plate, set, maker);
        return (double) chance[0] / chance[1];
    }

    int likely(int plate, int set) {
        int best = -1;
        double most = 0;
        for (int m = 0; m < makers.size(); m++) {
            if (share(plate, set, m) > most + 1e-9) {
                most = share(plate, set, m);
                best = m;
            }
        }
        return best;
    }

    boolean forged(int plate, int set, int maker) {
        for (int m = 0; m < makers.size(); m++) {
            if (share(plate, set, m) > share(plate, set, maker) + 1e-9) {
                return true;
            }
        }
        return false;
    }

    int near(int element, int of, int by) {
        int many = 0;
        for (Line one : lines) {
            boolean near = false;
            for (Line other : lines) {
                near |= other.element == of && Math.abs(one.wave - other.wave) <= by;
            }
            many += one.element == element && near ? 1 : 0;
        }
        return many;
    }
}
