import java.util.List;
import java.util.Random;

/**
 * Runs of calls, made by a fixed row of numbers, on the class and on Oracle: all answers must agree. No object
 * gets more than 512 calls, since what it answers then is free.
 */
public final class OracleTest {
    private static final int RUNS = 400;
    private static final int ROUNDS = 3;

    private final Random random;
    private final RainbowPlate x = new RainbowPlate();
    private final Oracle o = new Oracle();
    private final String name;
    private int a;
    private int b;
    private int c;

    private OracleTest(int run) {
        random = new Random(1000 + run);
        name = "run " + run + " ";
    }

    public static void main(String[] args) {
        for (int run = 0; run < RUNS; run++) {
            OracleTest test = new OracleTest(run);
            test.tune();
            for (int round = 1; round < ROUNDS; round++) {
                test.change();
                test.askBriefly();
            }
            test.change();
            test.askInstrument();
            test.askPlate();
        }
        allLaws();
        for (int run = 0; run < 60; run++) {
            spansEverywhere(new Random(run), run);
        }
        Checks.finish("OracleTest");
    }

    /** Without known lines and with one, by each law that there is. */
    private static void allLaws() {
        for (int n = 0; n < 4; n++) {
            RainbowPlate y = new RainbowPlate();
            int place = n * 331;
            int wave = 1000 + n * 2999;
            int error = n * 7;
            y.error(error);
            if (n > 0) {
                y.known(place, false, wave, true);
            }
            int many = 0;
            int low = Integer.MAX_VALUE;
            int high = Integer.MIN_VALUE;
            for (int b = 1; b <= 90; b++) {
                for (int c = -9; c <= 9; c++) {
                    for (int a = 0; a <= 9999; a++) {
                        Oracle.Law law = new Oracle.Law(a, b, c);
                        if (n == 0 || Math.abs(law.at(place) - wave) <= error) {
                            many++;
                            int there = law.at(700);
                            low = Math.min(low, there);
                            high = Math.max(high, there);
                        }
                    }
                }
            }
            Checks.due("laws of " + n, y.laws(), many);
            Checks.due("least at 700 of " + n, y.span(700, true, false), low - error);
            Checks.due("greatest at 700 of " + n, y.span(700, true, true), high + error);
        }
    }

    /** Few known lines let many laws be, so that all of these must be in the spans. */
    private static void spansEverywhere(Random random, int run) {
        Oracle o = new Oracle();
        RainbowPlate y = new RainbowPlate();
        o.error = random.nextInt(51);
        y.error(o.error);
        Oracle.Law hidden = new Oracle.Law(random.nextInt(10000), 1 + random.nextInt(90), random.nextInt(19) - 9);
        int many = random.nextInt(4);
        for (int n = 0; n < many; n++) {
            int place = random.nextInt(1000);
            int wave = hidden.at(place) + random.nextInt(2 * o.error + 1) - o.error;
            if (wave >= 1000 && wave <= 9999) {
                o.knowns.add(new Oracle.Known(place, false, wave, true));
                y.known(place, false, wave, true);
            }
        }
        for (int place = 0; place < 1000; place += 1 + random.nextInt(40)) {
            int low = Integer.MAX_VALUE;
            int high = Integer.MIN_VALUE;
            for (int b = 1; b <= 90; b++) {
                for (int c = -9; c <= 9; c++) {
                    int least = 0;
                    int most = 9999;
                    for (Oracle.Known k : o.knowns) {
                        int rise = new Oracle.Law(0, b, c).at(k.place());
                        least = Math.max(least, k.wave() - o.error - rise);
                        most = Math.min(most, k.wave() + o.error - rise);
                    }
                    if (least <= most) {
                        low = Math.min(low, new Oracle.Law(least, b, c).at(place));
                        high = Math.max(high, new Oracle.Law(most, b, c).at(place));
                    }
                }
            }
            boolean none = low > high;
            Checks.due("few lines " + run + " least at " + place, y.span(place, true, false), none ? -99999 : low - o.error);
            Checks.due("few lines " + run + " greatest at " + place, y.span(place, true, true), none ? -99999 : high + o.error);
        }
    }

    private int from(int low, int high) {
        return low + random.nextInt(high - low + 1);
    }

    private boolean maybe(int of) {
        return random.nextInt(of) == 0;
    }

    private void due(String what, long got, long want) {
        Checks.due(name + what, got, want);
    }

    private void due(String what, boolean got, boolean want) {
        Checks.due(name + what, got, want);
    }

    /** A hidden law that stays within waves, and known lines near it. */
    private void tune() {
        a = from(900, 3000);
        b = from(10, 60);
        c = from(-3, 3);
        turnScrew();
        o.error = from(0, 6);
        x.error(o.error);
        addKnown(from(0, 999), false);
        addKnown(from(0, 999), false);
    }

    private void turnScrew() {
        o.period = from(2, 50);
        o.wear = from(0, 9);
        o.phase = from(0, o.period - 1);
        o.lag = from(0, 9);
        x.screw(o.period, o.wear, o.phase, o.lag);
        o.changed();
    }

    private int waveAt(int place, boolean down) {
        return new Oracle.Law(a, b, c).at(o.truly(place, down));
    }

    private void addKnown(int place, boolean spark) {
        boolean down = maybe(2);
        int slip = spark ? from(-3, 3) : 0;
        int wave = new Oracle.Law(a, b, c).at(o.truly(place, down) + slip) + from(-o.error, o.error) / 2;
        if (wave < 1000 || wave > 9999 || o.knowns.size() == 10) {
            return;
        }
        o.knowns.add(new Oracle.Known(place, down, wave, spark));
        o.changed();
        due("known", x.known(place, down, wave, spark), o.knowns.size());
    }

    private void change() {
        if (maybe(4)) {
            turnScrew();
        }
        if (maybe(4)) {
            o.error = from(0, 30);
            x.error(o.error);
            o.changed();
        }
        if (o.knowns.isEmpty() || maybe(2)) {
            addKnown(from(0, 999), maybe(4));
        }
        while (o.knowns.isEmpty()) {
            o.knowns.add(new Oracle.Known(10, false, 2000, true));
            x.known(10, false, 2000, true);
            o.changed();
        }
        for (int n = from(0, 2); n > 0 && o.gauges.size() < 8; n--) {
            addGauge();
        }
        for (int n = from(1, 3); n > 0 && o.air.size() < 6; n--) {
            o.air.add(maybe(4));
            x.element(o.air.get(o.air.size() - 1));
        }
        if (o.plates.size() < 3) {
            addPlate();
        }
        for (int n = from(0, 8); n > 0 && o.readings.size() < 24; n--) {
            addReading();
        }
        for (int n = from(0, 6); n > 0; n--) {
            addLine();
        }
        if (o.makers.size() < 4) {
            addMaker();
        }
        if (maybe(3)) {
            imageAndBack();
        }
    }

    /** What comes between the image and the way back must leave nothing. */
    private void imageAndBack() {
        x.image();
        x.error(50);
        x.screw(13, 5, 5, 5);
        if (o.knowns.size() < 10) {
            x.known(5, true, 9000, false);
        }
        if (!o.readings.isEmpty()) {
            x.away();
        }
        x.laws();
        x.sets(0, 0);
        x.drift(0, 0, false);
        due("back", x.back(), true);
    }

    private void addGauge() {
        int first = from(0, 999);
        int second = from(0, 999);
        boolean firstDown = maybe(2);
        boolean secondDown = maybe(2);
        int apart = Math.abs(o.truly(first, firstDown) - o.truly(second, secondDown));
        o.gauges.add(new Oracle.Gauge(first, firstDown, second, secondDown, apart));
        due("gauge", x.gauge(first, firstDown, second, secondDown, apart), o.gauges.size());
    }

    private void addPlate() {
        int low = from(1000, 3000);
        int high = from(low, 9999);
        Oracle.Plate plate = new Oracle.Plate(from(1, 9), from(1, 5), low, high, maybe(2) ? 0 : from(1, 60));
        due("plate", x.plate(plate.time(), plate.slit(), low, high, plate.ghost()), o.plates.size());
        o.plates.add(plate);
    }

    private void addReading() {
        int plate = from(0, o.plates.size() - 1);
        int place = from(0, 999);
        List<Integer> same = o.on(plate);
        if (!same.isEmpty() && maybe(3)) {
            int at = o.readings.get(same.get(0)).place() + o.plates.get(plate).ghost() + from(-2, 2);
            place = Math.max(0, Math.min(999, at));
        }
        Oracle.Reading r = new Oracle.Reading(plate, place, maybe(2), maybe(3) ? 1 : from(1, 9), from(1, 9));
        due("reading", x.reading(plate, place, r.down(), r.strength(), r.width()), o.readings.size());
        o.readings.add(r);
    }

    /** Most lines lie near a reading, some shifted, some with figures changed. */
    private void addLine() {
        int element = from(0, o.air.size() - 1);
        int number = (int) o.lines.stream().filter(l -> l.element() == element).count();
        int wave = from(1000, 9999);
        if (!o.readings.isEmpty() && !maybe(5)) {
            Oracle.Reading r = o.readings.get(from(0, o.readings.size() - 1));
            wave = waveAt(r.place(), r.down()) + from(-2, 2);
            if (maybe(5)) {
                wave = wave * 1000 / (1000 + from(-50, 50));
            }
            if (maybe(5) && wave >= 1000 && wave <= 9999) {
                wave = wave / 100 * 100 + wave % 10 * 10 + wave / 10 % 10;
            }
        }
        if (number == 6 || wave < 1000 || wave > 9999) {
            return;
        }
        Oracle.Line line = new Oracle.Line(element, number, wave, from(1, 9));
        due("line", x.line(element, wave, line.strength()), number);
        o.lines.add(line);
    }

    private void addMaker() {
        int[][] recipe = new int[6][2];
        due("maker", x.maker(), o.makers.size());
        for (int e = 0; e < 6; e++) {
            recipe[e][1] = 9;
            if (maybe(2)) {
                recipe[e][0] = maybe(3) ? from(0, 4) : 0;
                recipe[e][1] = from(5, 9);
                x.recipe(o.makers.size(), e, recipe[e][0], recipe[e][1]);
            }
        }
        o.makers.add(recipe);
    }

    /** What is worked out once and kept must be forgotten by the next change. */
    private void askBriefly() {
        int plate = from(0, o.plates.size() - 1);
        int place = from(0, 999);
        Oracle.Span span = o.spanAt(o.truly(place, false));
        due("laws for now", x.laws(), o.laws().size());
        due("greatest for now", x.span(place, false, true), span == null ? -99999 : span.high());
        due("sets for now", x.sets(plate, 0), o.sets(plate, 0));
        due("left for now", x.left(plate, 63, 0), o.left(plate, 63, 0));
        due("drift for now", x.drift(plate, 1, true), o.drift(plate, 1, true));
    }

    private void askInstrument() {
        int place = from(0, 999);
        boolean down = maybe(2);
        due("truly", x.truly(place, down), o.truly(place, down));
        List<Integer> fits = o.fits();
        due("fits", x.fits(), fits.size());
        int at = from(0, fits.size());
        due("fit", x.fit(at), at < fits.size() ? fits.get(at) : -1);
        List<Oracle.Law> laws = o.laws();
        due("laws", x.laws(), laws.size());
        due("law 0", x.law(0), laws.isEmpty() ? 99999 : laws.get(0).a());
        due("law 1", x.law(1), laws.isEmpty() ? 99999 : laws.get(0).b());
        due("law 2", x.law(2), laws.isEmpty() ? 99999 : laws.get(0).c());
        Oracle.Span span = o.spanAt(o.truly(place, down));
        due("least", x.span(place, down, false), span == null ? -99999 : span.low());
        due("greatest", x.span(place, down, true), span == null ? -99999 : span.high());
        due("slipped", x.slipped(), o.slipped());
        for (int r = 0; r < o.readings.size(); r++) {
            due("ghost", x.look(r, 8), o.ghost(r) ? 1 : 0);
            due("reading's least", x.look(r, 6), o.span(r, 0) == null ? -99999 : o.span(r, 0).low());
            due("reading's greatest", x.look(r, 7), o.span(r, 0) == null ? -99999 : o.span(r, 0).high());
        }
        for (Oracle.Line line : o.lines) {
            int speed = from(-50, 50);
            due("lies", x.lies(line.element(), line.number(), speed), o.lies(line, speed));
        }
        int element = from(0, o.air.size() - 1);
        int other = from(0, o.air.size() - 1);
        int by = maybe(2) ? from(0, 20) : from(0, 999);
        due("near", x.near(element, other, by), o.near(element, other, by));
    }

    private int someSet() {
        return maybe(6) ? random.nextInt() : from(0, 63);
    }

    private void askPlate() {
        int p = from(0, o.plates.size() - 1);
        for (int what = 0; what < 4; what++) {
            due("sets " + what, x.sets(p, what), o.sets(p, what));
        }
        int likelySet = o.sets(p, 1);
        askSet(p, likelySet < 0 || maybe(3) ? someSet() : likelySet);
        askSet(p, maybe(2) ? 0 : someSet());
        askStars(p);
        due("alike", x.alike(p, 0), o.alike(p, 0));
        for (int e = 0; e < o.air.size(); e++) {
            due("misprint", x.misprint(p, e), o.misprint(p, e));
        }
        for (Oracle.Line line : o.lines) {
            due("must", x.must(p, line.element(), line.number()), o.must(o.plates.get(p), line.wave(), line.strength()));
        }
        int first = someSet();
        int second = someSet();
        int low = from(1000, 4000);
        int high = from(low, 9999);
        due("next", x.next(first, second, low, high), o.next(first, second, low, high));
    }

    private void askSet(int p, int set) {
        int speed = maybe(2) ? 0 : from(-50, 50);
        due("explains", x.explains(p, set, speed), o.explains(p, set, speed));
        due("left", x.left(p, set, speed), o.left(p, set, speed));
        due("missed", x.missed(p, set, speed), o.missed(p, set, speed));
        for (int what = 0; what < 3; what++) {
            due("speeds " + what, x.speeds(p, set, what), o.speeds(p, set, what));
        }
        for (int e = 0; e < o.air.size(); e++) {
            List<Integer> fit = o.amounts(p, set, e);
            due("least amount", x.amount(p, set, e, false), fit.isEmpty() ? -1 : fit.get(0));
            due("greatest amount", x.amount(p, set, e, true), fit.isEmpty() ? -1 : fit.get(fit.size() - 1));
        }
        due("wide", x.wide(p, set, false), o.wide(p, set, false));
        due("shared", x.wide(p, set, true), o.wide(p, set, true));
        int off = maybe(2) ? from(0, 999) : from(0, 60);
        due("rows", x.rows(p, set, off, false), o.rows(p, set, off, false));
        due("step", x.rows(p, set, off, true), o.rows(p, set, off, true));
        due("sums", x.sums(p, set, off), o.sums(p, set, off));
        due("grain", x.grain(p, set), o.grain(p, set));
        due("drifts", x.drift(p, set, false), o.drift(p, set, false));
        due("drift", x.drift(p, set, true), o.drift(p, set, true));
        for (int m = 0; m < o.makers.size(); m++) {
            long[] chance = o.chance(p, set, m);
            due("chance above", x.chance(p, set, m, false), chance[0]);
            due("chance below", x.chance(p, set, m, true), chance[1]);
            due("forged", x.forged(p, set, m), o.forged(p, set, m));
        }
        due("likely", x.likely(p, set), o.likely(p, set));
    }

    private void askStars(int p) {
        if (maybe(6)) {
            int first = someSet();
            int second = someSet();
            for (int what = 0; what < 3; what++) {
                due("stars " + what, x.stars(p, first, second, what), o.stars(p, first, second, what));
            }
        }
    }
}
