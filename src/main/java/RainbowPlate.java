import java.util.Arrays;
import java.util.NoSuchElementException;

/** Plates of lines in a rainbow, as ../shared/DOC.md promises them. */
public final class RainbowPlate {
    public static final int NONE = -1;

    private static final int MOST_GAUGES = 8;
    private static final int MOST_KNOWN = 10;
    private static final int MOST_ELEMENTS = 6;
    private static final int MOST_LINES = 6;
    private static final int MOST_PLATES = 3;
    private static final int MOST_READINGS = 24;
    private static final int MOST_MAKERS = 4;
    private static final int MOST_CLAIMS = 6;
    private static final int MOST_BYTES = 400;
    private static final int LAST_PLACE = 999;
    private static final int FIRST_WAVE = 1000;
    private static final int LAST_WAVE = 9999;
    private static final int TOP_SPEED = 50;
    private static final int FARTHEST = 30;
    /** STRENGTH times TIME times SLIT of a line that must be seen. */
    private static final int ENOUGH = 30;
    private static final int NO_NUMBER = 99;
    private static final int NO_LAW = 99999;
    private static final int NO_SPAN = -99999;

    private final Desk desk = new Desk();
    private final Desk kept = new Desk();
    private final Laws solver = new Laws(desk);
    private final Judge judge = new Judge(desk, solver);
    private final Bells bells = new Bells(desk, judge);
    private final Rows series = new Rows(desk, judge);
    private final Reader reader = new Reader();
    private boolean hasImage;

    public RainbowPlate() {
    }

    public int feed(int a, int b, int c, int d, int e) {
        if (reader.length + 20 > MOST_BYTES) {
            return NONE;
        }
        reader.take(a);
        reader.take(b);
        reader.take(c);
        reader.take(d);
        reader.take(e);
        return reader.length;
    }

    public boolean end(int n) {
        if (n < 0 || n > reader.length) {
            return false;
        }
        reader.length = n;
        return true;
    }

    public void screw(int period, int wear, int phase, int lag) throws IllegalArgumentException {
        wantNumber(within(period, 2, 50) && within(wear, 0, 9));
        wantNumber(within(phase, 0, period - 1) && within(lag, 0, 9));
        desk.screw.period = period;
        desk.screw.wear = wear;
        desk.screw.phase = phase;
        desk.screw.lag = lag;
        solver.forget();
    }

    public int truly(int place, boolean down) throws IllegalArgumentException {
        wantNumber(within(place, 0, LAST_PLACE));
        return desk.screw.truePlace(place, down);
    }

    public int gauge(int first, boolean firstDown, int second, boolean secondDown, int apart)
            throws IllegalArgumentException, UnsupportedOperationException {
        wantNumber(within(first, 0, LAST_PLACE) && within(second, 0, LAST_PLACE) && within(apart, 0, 1200));
        wantRoom(desk.screw.gauges < MOST_GAUGES);
        Screw screw = desk.screw;
        int at = screw.gauges;
        screw.first[at] = first;
        screw.firstDown[at] = firstDown;
        screw.second[at] = second;
        screw.secondDown[at] = secondDown;
        screw.apart[at] = apart;
        screw.gauges = at + 1;
        return screw.gauges;
    }

    public int fits() {
        return desk.screw.countFits();
    }

    public int fit(int i) {
        return desk.screw.findFit(i);
    }

    public void error(int n) throws IllegalArgumentException {
        wantNumber(within(n, 0, 50));
        desk.knowns.error = n;
        solver.forget();
    }

    public int known(int place, boolean down, int wave, boolean spark)
            throws IllegalArgumentException, UnsupportedOperationException {
        wantNumber(within(place, 0, LAST_PLACE) && isWave(wave));
        wantRoom(desk.knowns.size < MOST_KNOWN);
        Knowns knowns = desk.knowns;
        int at = knowns.size;
        knowns.place[at] = place;
        knowns.down[at] = down;
        knowns.wave[at] = wave;
        knowns.spark[at] = spark;
        knowns.size = at + 1;
        solver.forget();
        return knowns.size;
    }

    public int laws() {
        solver.solve();
        return solver.total;
    }

    public int law(int what) throws NoSuchElementException {
        wantWhat(within(what, 0, 2));
        solver.solve();
        if (solver.total == 0) {
            return NO_LAW;
        }
        if (what == 0) {
            return solver.firstA;
        }
        return what == 1 ? solver.firstB : solver.firstC;
    }

    public int span(int place, boolean down, boolean most) throws IllegalArgumentException {
        wantNumber(within(place, 0, LAST_PLACE));
        return spanEnd(desk.screw.truePlace(place, down), most);
    }

    public int slipped() {
        for (int n = 0; n <= 2 * FARTHEST; n++) {
            if (solver.someHolds(outward(n))) {
                return outward(n);
            }
        }
        return NO_NUMBER;
    }

    public int element(boolean air) throws UnsupportedOperationException {
        wantRoom(desk.table.size < MOST_ELEMENTS);
        int at = desk.table.size;
        desk.table.air[at] = air;
        desk.table.lines[at] = 0;
        desk.table.size = at + 1;
        return at;
    }

    public int line(int element, int wave, int strength)
            throws IndexOutOfBoundsException, IllegalArgumentException, UnsupportedOperationException {
        wantThere(within(element, 0, desk.table.size - 1));
        wantNumber(isWave(wave) && within(strength, 1, 9));
        wantRoom(desk.table.lines[element] < MOST_LINES);
        int number = desk.table.lines[element];
        int at = element * MOST_LINES + number;
        desk.table.wave[at] = wave;
        desk.table.strength[at] = strength;
        desk.table.lines[element] = number + 1;
        return number;
    }

    public int plate(int time, int slit, int from, int to, int ghost)
            throws IllegalArgumentException, UnsupportedOperationException {
        wantNumber(within(time, 1, 9) && within(slit, 1, 5) && within(ghost, 0, 500));
        wantNumber(isWave(from) && isWave(to) && from <= to);
        wantRoom(desk.shelf.plates < MOST_PLATES);
        Shelf shelf = desk.shelf;
        int at = shelf.plates;
        shelf.time[at] = time;
        shelf.slit[at] = slit;
        shelf.from[at] = from;
        shelf.to[at] = to;
        shelf.ghost[at] = ghost;
        shelf.plates = at + 1;
        return at;
    }

    public int reading(int plate, int place, boolean down, int strength, int width)
            throws IndexOutOfBoundsException, IllegalArgumentException, UnsupportedOperationException {
        wantPlate(plate);
        wantNumber(within(place, 0, LAST_PLACE) && within(strength, 1, 9) && within(width, 1, 9));
        wantRoom(desk.shelf.readings < MOST_READINGS);
        Shelf shelf = desk.shelf;
        int at = shelf.readings;
        shelf.plate[at] = plate;
        shelf.place[at] = place;
        shelf.down[at] = down;
        shelf.strength[at] = strength;
        shelf.width[at] = width;
        shelf.readings = at + 1;
        return at;
    }

    public int look(int reading, int what) throws IndexOutOfBoundsException, NoSuchElementException {
        Shelf shelf = desk.shelf;
        wantThere(within(reading, 0, shelf.readings - 1));
        wantWhat(within(what, 0, 8));
        int truePlace = desk.screw.truePlace(shelf.place[reading], shelf.down[reading]);
        switch (what) {
            case 0: return shelf.plate[reading];
            case 1: return shelf.place[reading];
            case 2: return shelf.down[reading] ? 1 : 0;
            case 3: return shelf.strength[reading];
            case 4: return shelf.width[reading];
            case 5: return truePlace;
            case 6: return spanEnd(truePlace, false);
            case 7: return spanEnd(truePlace, true);
            default: return shelf.mayBeGhost(reading) ? 1 : 0;
        }
    }

    public int away() {
        if (desk.shelf.readings == 0) {
            return NONE;
        }
        desk.shelf.readings--;
        return desk.shelf.readings;
    }

    public int lies(int element, int line, int speed) throws IndexOutOfBoundsException, IllegalArgumentException {
        wantLine(element, line);
        wantSpeed(speed);
        return desk.table.liesAt(element, line, speed);
    }

    public boolean must(int plate, int element, int line) throws IndexOutOfBoundsException {
        wantPlate(plate);
        wantLine(element, line);
        int at = element * MOST_LINES + line;
        return desk.shelf.mustShow(plate, desk.table.wave[at], desk.table.strength[at]);
    }

    public boolean explains(int plate, int set, int speed) throws IndexOutOfBoundsException, IllegalArgumentException {
        wantPlate(plate);
        wantSpeed(speed);
        judge.open(plate);
        return judge.isExplained(set, speed);
    }

    public int sets(int plate, int what) throws IndexOutOfBoundsException, NoSuchElementException {
        wantPlate(plate);
        wantWhat(within(what, 0, 3));
        judge.open(plate);
        judge.tallySets();
        switch (what) {
            case 0: return judge.howMany;
            case 1: return judge.fewest;
            case 2: return judge.sure;
            default: return judge.may;
        }
    }

    public int left(int plate, int set, int speed) throws IndexOutOfBoundsException, IllegalArgumentException {
        wantPlate(plate);
        wantSpeed(speed);
        judge.open(plate);
        return judge.leftBits(set, speed);
    }

    public int missed(int plate, int set, int speed) throws IndexOutOfBoundsException, IllegalArgumentException {
        wantPlate(plate);
        wantSpeed(speed);
        judge.open(plate);
        judge.survey(desk.table.withAir(set), speed);
        return judge.missing;
    }

    public int speeds(int plate, int set, int what) throws IndexOutOfBoundsException, NoSuchElementException {
        wantPlate(plate);
        wantWhat(within(what, 0, 2));
        judge.open(plate);
        int many = 0;
        int least = NO_NUMBER;
        int greatest = NO_NUMBER;
        for (int speed = -TOP_SPEED; speed <= TOP_SPEED; speed++) {
            if (judge.isExplained(set, speed)) {
                least = many == 0 ? speed : least;
                greatest = speed;
                many++;
            }
        }
        if (what == 0) {
            return many;
        }
        return what == 1 ? least : greatest;
    }

    public int amount(int plate, int set, int element, boolean most) throws IndexOutOfBoundsException {
        wantPlate(plate);
        wantElement(element);
        judge.open(plate);
        int fitting = judge.amountBits(set, element);
        for (int n = 1; n <= 9; n++) {
            int amount = most ? 10 - n : n;
            if (has(fitting, amount)) {
                return amount;
            }
        }
        return NONE;
    }

    public int wide(int plate, int set, boolean shared) throws IndexOutOfBoundsException {
        wantPlate(plate);
        judge.open(plate);
        return shared ? judge.sharedBits(set) : judge.wideBits(set);
    }

    public int rows(int plate, int set, int off, boolean step)
            throws IndexOutOfBoundsException, IllegalArgumentException {
        wantPlate(plate);
        wantNumber(within(off, 0, 999));
        judge.open(plate);
        series.gather(set);
        series.arrange(off);
        return step ? series.begin : series.pairs;
    }

    public int next(int a, int b, int from, int to) throws IllegalArgumentException {
        wantNumber(isWave(from) && isWave(to) && from <= to);
        for (int time = 1; time <= 9; time++) {
            for (int slit = 1; slit <= 5; slit++) {
                int light = time * slit;
                if (desk.table.parts(a, b, light, 2 * slit, from, to)
                        || desk.table.parts(b, a, light, 2 * slit, from, to)) {
                    return 10 * time + slit;
                }
            }
        }
        return NONE;
    }

    public int misprint(int plate, int element) throws IndexOutOfBoundsException {
        wantPlate(plate);
        wantElement(element);
        judge.open(plate);
        int left = judge.leftBits(1 << element, 0);
        for (int line = 0; line < desk.table.lines[element]; line++) {
            int reading = judge.misprintReading(element, line, left);
            if (reading != NONE) {
                return 32 * line + reading;
            }
        }
        return NONE;
    }

    public int alike(int first, int second) throws IndexOutOfBoundsException {
        wantPlate(first);
        wantPlate(second);
        judge.open(first);
        return judge.alikeBits(second);
    }

    public int stars(int plate, int first, int second, int what)
            throws IndexOutOfBoundsException, NoSuchElementException {
        wantPlate(plate);
        wantWhat(within(what, 0, 2));
        judge.open(plate);
        return judge.pairStars(first, second, what);
    }

    public int drift(int plate, int set, boolean near) throws IndexOutOfBoundsException {
        wantPlate(plate);
        judge.open(plate);
        int many = 0;
        for (int n = 0; n <= 2 * FARTHEST; n++) {
            if (judge.isExplainedAdrift(set, outward(n))) {
                if (near) {
                    return outward(n);
                }
                many++;
            }
        }
        return near ? NO_NUMBER : many;
    }

    public int maker() throws UnsupportedOperationException {
        wantRoom(desk.makerCount < MOST_MAKERS);
        int begin = desk.makerCount * MOST_ELEMENTS;
        for (int e = 0; e < MOST_ELEMENTS; e++) {
            desk.recipeLow[begin + e] = 0;
            desk.recipeHigh[begin + e] = 9;
        }
        desk.makerCount++;
        return desk.makerCount - 1;
    }

    public void recipe(int maker, int element, int low, int high)
            throws IndexOutOfBoundsException, IllegalArgumentException {
        wantMaker(maker);
        wantThere(within(element, 0, MOST_ELEMENTS - 1));
        wantNumber(within(low, 0, high) && within(high, 0, 9));
        desk.recipeLow[maker * MOST_ELEMENTS + element] = low;
        desk.recipeHigh[maker * MOST_ELEMENTS + element] = high;
    }

    public int chance(int plate, int set, int maker, boolean below) throws IndexOutOfBoundsException {
        wantPlate(plate);
        wantMaker(maker);
        judge.open(plate);
        bells.weigh(set);
        bells.reckon(set, maker);
        return below ? bells.below : bells.above;
    }

    public int likely(int plate, int set) throws IndexOutOfBoundsException {
        wantPlate(plate);
        judge.open(plate);
        bells.weigh(set);
        return bells.likeliest(set);
    }

    public boolean forged(int plate, int set, int maker) throws IndexOutOfBoundsException {
        wantPlate(plate);
        wantMaker(maker);
        judge.open(plate);
        bells.weigh(set);
        return bells.isBeaten(set, maker);
    }

    public int sums(int plate, int set, int off) throws IndexOutOfBoundsException, IllegalArgumentException {
        wantPlate(plate);
        wantNumber(within(off, 0, 999));
        judge.open(plate);
        series.gather(set);
        return series.countSums(off);
    }

    public int grain(int plate, int set) throws IndexOutOfBoundsException {
        wantPlate(plate);
        judge.open(plate);
        int left = judge.leftBits(set, 0);
        int bits = 0;
        for (int r = 0; r < desk.shelf.readings; r++) {
            if (has(left, r) && desk.shelf.strength[r] == 1) {
                bits |= 1 << r;
            }
        }
        return bits;
    }

    public int near(int element, int of, int by) throws IndexOutOfBoundsException, IllegalArgumentException {
        wantElement(element);
        wantElement(of);
        wantNumber(within(by, 0, 999));
        int many = 0;
        for (int line = 0; line < desk.table.lines[element]; line++) {
            int wave = desk.table.wave[element * MOST_LINES + line];
            if (!desk.table.isFar(wave, 1 << of, by)) {
                many++;
            }
        }
        return many;
    }

    public int claim() throws IllegalArgumentException, UnsupportedOperationException {
        boolean right = reader.readText();
        reader.length = 0;
        wantNumber(right);
        wantRoom(desk.claimCount < MOST_CLAIMS);
        int at = desk.claimCount;
        desk.claims[at] = new Claim(reader.code, reader.size);
        desk.claimCount = at + 1;
        return at;
    }

    public int fault() {
        return reader.wrong;
    }

    public boolean holds(int claim, int plate) throws IndexOutOfBoundsException {
        wantThere(within(claim, 0, desk.claimCount - 1));
        wantPlate(plate);
        Claim told = desk.claims[claim];
        if (told == null) {
            return false;
        }
        judge.open(plate);
        judge.tallySets();
        return told.isTrue(judge);
    }

    public void image() {
        kept.become(desk);
        hasImage = true;
    }

    public boolean back() {
        if (!hasImage) {
            return false;
        }
        desk.become(kept);
        solver.forget();
        return true;
    }

    public int count(int what) {
        switch (what) {
            case 0: return desk.screw.gauges;
            case 1: return desk.knowns.size;
            case 2: return desk.table.size;
            case 3: return desk.table.allLines();
            case 4: return desk.shelf.plates;
            case 5: return desk.shelf.readings;
            case 6: return desk.shelf.allGhosts();
            case 7: return desk.claimCount;
            case 8: return desk.knowns.error;
            case 9:
                solver.solve();
                return solver.total > 0 ? desk.shelf.readings : 0;
            case 10: return desk.makerCount;
            default: return NONE;
        }
    }

    private int spanEnd(int truePlace, boolean most) {
        solver.solve();
        int slot = solver.slotOf(truePlace);
        if (slot == NONE) {
            return NO_SPAN;
        }
        return most ? solver.spanHigh[slot] : solver.spanLow[slot];
    }

    private void wantPlate(int plate) {
        wantThere(within(plate, 0, desk.shelf.plates - 1));
    }

    private void wantElement(int element) {
        wantThere(within(element, 0, desk.table.size - 1));
    }

    private void wantLine(int element, int line) {
        wantElement(element);
        wantThere(within(line, 0, desk.table.lines[element] - 1));
    }

    private void wantMaker(int maker) {
        wantThere(within(maker, 0, desk.makerCount - 1));
    }

    private static void wantSpeed(int speed) {
        wantNumber(within(speed, -TOP_SPEED, TOP_SPEED));
    }

    private static void wantNumber(boolean right) {
        if (!right) {
            throw new IllegalArgumentException("not as the document allows");
        }
    }

    private static void wantThere(boolean there) {
        if (!there) {
            throw new IndexOutOfBoundsException("there is none such");
        }
    }

    private static void wantRoom(boolean room) {
        if (!room) {
            throw new UnsupportedOperationException("there are as many as may be");
        }
    }

    private static void wantWhat(boolean told) {
        if (!told) {
            throw new NoSuchElementException("nothing is told by this number");
        }
    }

    private static boolean within(int number, int low, int high) {
        return number >= low && number <= high;
    }

    private static boolean isWave(int number) {
        return within(number, FIRST_WAVE, LAST_WAVE);
    }

    private static boolean has(int bits, int n) {
        return (bits >> n & 1) == 1;
    }

    /** Of 0, 1, 2, 3, 4 .. the numbers 0, -1, 1, -2, 2 ..: the nearest to 0 first, of two the lower one. */
    private static int outward(int n) {
        int far = (n + 1) / 2;
        return n % 2 == 1 ? -far : far;
    }

    /** The worn screw, and the gauges that tell of it. */
    private static final class Screw {
        final int[] first = new int[MOST_GAUGES];
        final boolean[] firstDown = new boolean[MOST_GAUGES];
        final int[] second = new int[MOST_GAUGES];
        final boolean[] secondDown = new boolean[MOST_GAUGES];
        final int[] apart = new int[MOST_GAUGES];
        int gauges;
        int period = 10;
        int wear;
        int phase;
        int lag;

        void become(Screw other) {
            for (int n = 0; n < MOST_GAUGES; n++) {
                first[n] = other.first[n];
                firstDown[n] = other.firstDown[n];
                second[n] = other.second[n];
                secondDown[n] = other.secondDown[n];
                apart[n] = other.apart[n];
            }
            gauges = other.gauges;
            period = other.period;
            wear = other.wear;
            phase = other.phase;
            lag = other.lag;
        }

        int truePlace(int place, boolean down) {
            return turned(place, wear, phase) + (down ? lag : 0);
        }

        private int turned(int place, int someWear, int somePhase) {
            if (period < 1) {
                return place;
            }
            boolean early = Math.floorMod(place - somePhase, period) < period / 2;
            return early ? place + someWear : place - someWear;
        }

        int countFits() {
            int many = 0;
            for (int n = 0; n < candidates(); n++) {
                if (isFit(n)) {
                    many++;
                }
            }
            return many;
        }

        int findFit(int wanted) {
            int seen = 0;
            for (int n = 0; n < candidates(); n++) {
                if (isFit(n)) {
                    if (seen == wanted) {
                        return 1000 * wearOf(n) + 100 * lagOf(n) + phaseOf(n);
                    }
                    seen++;
                }
            }
            return NONE;
        }

        /** The first ten are WEAR 0 with each LAG, since PHASE 0 alone counts there. */
        private int candidates() {
            return 10 + 90 * period;
        }

        private int wearOf(int n) {
            return n < 10 || period < 1 ? 0 : 1 + (n - 10) / period / 10;
        }

        private int lagOf(int n) {
            return n < 10 || period < 1 ? n : (n - 10) / period % 10;
        }

        private int phaseOf(int n) {
            return n < 10 || period < 1 ? 0 : (n - 10) % period;
        }

        private boolean isFit(int n) {
            int someWear = wearOf(n);
            int someLag = lagOf(n);
            int somePhase = phaseOf(n);
            for (int g = 0; g < gauges; g++) {
                int one = turned(first[g], someWear, somePhase) + (firstDown[g] ? someLag : 0);
                int other = turned(second[g], someWear, somePhase) + (secondDown[g] ? someLag : 0);
                if (!within(Math.abs(one - other) - apart[g], -1, 1)) {
                    return false;
                }
            }
            return true;
        }
    }

    /** Known lines, and the error within which a law must meet them. */
    private static final class Knowns {
        final int[] place = new int[MOST_KNOWN];
        final boolean[] down = new boolean[MOST_KNOWN];
        final int[] wave = new int[MOST_KNOWN];
        final boolean[] spark = new boolean[MOST_KNOWN];
        int size;
        int error = 2;

        void become(Knowns other) {
            for (int n = 0; n < MOST_KNOWN; n++) {
                place[n] = other.place[n];
                down[n] = other.down[n];
                wave[n] = other.wave[n];
                spark[n] = other.spark[n];
            }
            size = other.size;
            error = other.error;
        }
    }

    /** Elements with their lines; line l of element e stands at e * MOST_LINES + l. */
    private static final class Table {
        final boolean[] air = new boolean[MOST_ELEMENTS];
        final int[] lines = new int[MOST_ELEMENTS];
        final int[] wave = new int[MOST_ELEMENTS * MOST_LINES];
        final int[] strength = new int[MOST_ELEMENTS * MOST_LINES];
        int size;

        void become(Table other) {
            for (int n = 0; n < MOST_ELEMENTS; n++) {
                air[n] = other.air[n];
                lines[n] = other.lines[n];
            }
            for (int n = 0; n < MOST_ELEMENTS * MOST_LINES; n++) {
                wave[n] = other.wave[n];
                strength[n] = other.strength[n];
            }
            size = other.size;
        }

        int allLines() {
            int many = 0;
            for (int e = 0; e < size; e++) {
                many += lines[e];
            }
            return many;
        }

        int airBits() {
            int bits = 0;
            for (int e = 0; e < size; e++) {
                if (air[e]) {
                    bits |= 1 << e;
                }
            }
            return bits;
        }

        int withAir(int set) {
            return set & (1 << size) - 1 | airBits();
        }

        int withoutAir(int set) {
            return set & (1 << size) - 1 & ~airBits();
        }

        int liesAt(int element, int line, int speed) {
            int at = element * MOST_LINES + line;
            return air[element] ? wave[at] : wave[at] * (1000 + speed) / 1000;
        }

        /** Whether all lines of the elements are more than so far from the wave. */
        boolean isFar(int someWave, int elements, int far) {
            for (int e = 0; e < size; e++) {
                for (int l = 0; has(elements, e) && l < lines[e]; l++) {
                    if (Math.abs(wave[e * MOST_LINES + l] - someWave) <= far) {
                        return false;
                    }
                }
            }
            return true;
        }

        /** Whether a line of one set, seen in such light between the waves, is far from the other set and air. */
        boolean parts(int one, int other, int light, int far, int from, int to) {
            int shown = withoutAir(one);
            for (int e = 0; e < size; e++) {
                for (int l = 0; has(shown, e) && l < lines[e]; l++) {
                    int at = e * MOST_LINES + l;
                    if (strength[at] * light >= ENOUGH && within(wave[at], from, to)
                            && isFar(wave[at], withAir(other), far)) {
                        return true;
                    }
                }
            }
            return false;
        }
    }

    /** Plates, and the readings of them all in the order in which they came. */
    private static final class Shelf {
        final int[] time = new int[MOST_PLATES];
        final int[] slit = new int[MOST_PLATES];
        final int[] from = new int[MOST_PLATES];
        final int[] to = new int[MOST_PLATES];
        final int[] ghost = new int[MOST_PLATES];
        int plates;
        final int[] plate = new int[MOST_READINGS];
        final int[] place = new int[MOST_READINGS];
        final boolean[] down = new boolean[MOST_READINGS];
        final int[] strength = new int[MOST_READINGS];
        final int[] width = new int[MOST_READINGS];
        int readings;

        void become(Shelf other) {
            for (int n = 0; n < MOST_PLATES; n++) {
                time[n] = other.time[n];
                slit[n] = other.slit[n];
                from[n] = other.from[n];
                to[n] = other.to[n];
                ghost[n] = other.ghost[n];
            }
            plates = other.plates;
            for (int n = 0; n < MOST_READINGS; n++) {
                plate[n] = other.plate[n];
                place[n] = other.place[n];
                down[n] = other.down[n];
                strength[n] = other.strength[n];
                width[n] = other.width[n];
            }
            readings = other.readings;
        }

        boolean mayBeGhost(int reading) {
            int on = plate[reading];
            if (ghost[on] == 0) {
                return false;
            }
            for (int r = 0; r < readings; r++) {
                if (r != reading && plate[r] == on && strength[r] >= 7
                        && within(Math.abs(place[r] - place[reading]) - ghost[on], -1, 1)) {
                    return true;
                }
            }
            return false;
        }

        int allGhosts() {
            int many = 0;
            for (int r = 0; r < readings; r++) {
                if (mayBeGhost(r)) {
                    many++;
                }
            }
            return many;
        }

        boolean mustShow(int on, int wave, int lineStrength) {
            return within(wave, from[on], to[on]) && lineStrength * time[on] * slit[on] >= ENOUGH;
        }
    }

    /** All that an image keeps; the recipe of maker m for element e stands at m * MOST_ELEMENTS + e. */
    private static final class Desk {
        final Screw screw = new Screw();
        final Knowns knowns = new Knowns();
        final Table table = new Table();
        final Shelf shelf = new Shelf();
        final int[] recipeLow = new int[MOST_MAKERS * MOST_ELEMENTS];
        final int[] recipeHigh = new int[MOST_MAKERS * MOST_ELEMENTS];
        final Claim[] claims = new Claim[MOST_CLAIMS];
        int makerCount;
        int claimCount;

        /** Claims never change once made, so that both desks may share them. */
        void become(Desk other) {
            screw.become(other.screw);
            knowns.become(other.knowns);
            table.become(other.table);
            shelf.become(other.shelf);
            for (int n = 0; n < MOST_MAKERS * MOST_ELEMENTS; n++) {
                recipeLow[n] = other.recipeLow[n];
                recipeHigh[n] = other.recipeHigh[n];
            }
            for (int n = 0; n < MOST_CLAIMS; n++) {
                claims[n] = other.claims[n];
            }
            makerCount = other.makerCount;
            claimCount = other.claimCount;
        }
    }

    /**
     * The laws that hold. For one B and C the numbers A by which all known lines are met lie
     * side by side. For one C, of the least A by each B only those matter to the least wave at any
     * place that lie on the hull below them, of the greatest A those on the hull above: these few
     * are kept as points, since spans are asked for at many places.
     */
    private static final class Laws {
        static final int SLOPES = 90;
        static final int BENDS = 9;
        static final int LAST_A = 9999;
        static final int BELOW = 1;
        static final int ABOVE = -1;
        /** True places go from -9 to 1017, and 30 further in a warm room. */
        static final int LOWEST = -39;
        static final int HIGHEST = 1047;
        static final int UNMEASURED = -1000000;
        static final int FAR = 1000000000;

        final Desk desk;
        final int[] places = new int[MOST_KNOWN];
        final int[] lowPoints = new int[SLOPES * (2 * BENDS + 1)];
        final int[] highPoints = new int[SLOPES * (2 * BENDS + 1)];
        final int[] spanLow = new int[HIGHEST - LOWEST + 1];
        final int[] spanHigh = new int[HIGHEST - LOWEST + 1];
        int lowSize;
        int highSize;
        int total;
        int firstA;
        int firstB;
        int firstC;
        boolean fresh;
        int lowA;
        int highA;

        Laws(Desk desk) {
            this.desk = desk;
        }

        void forget() {
            fresh = false;
        }

        void solve() {
            if (fresh) {
                return;
            }
            Arrays.fill(spanLow, UNMEASURED);
            putPlaces(0);
            total = 0;
            lowSize = 0;
            highSize = 0;
            for (int c = -BENDS; c <= BENDS; c++) {
                solveBend(c);
            }
            fresh = true;
        }

        private void solveBend(int c) {
            int lowBegin = lowSize;
            int highBegin = highSize;
            for (int b = 1; b <= SLOPES; b++) {
                if (meetsAll(b, c)) {
                    if (total == 0 || b < firstB) {
                        firstA = lowA;
                        firstB = b;
                        firstC = c;
                    }
                    total += highA - lowA + 1;
                    lowSize = added(lowPoints, lowBegin, lowSize, pointOf(lowA, b, c), BELOW);
                    highSize = added(highPoints, highBegin, highSize, pointOf(highA, b, c), ABOVE);
                }
            }
        }

        private static int pointOf(int a, int b, int c) {
            return a << 12 | b << 5 | c + BENDS;
        }

        private static int aOf(int point) {
            return point >> 12;
        }

        private static int bOf(int point) {
            return point >> 5 & 127;
        }

        private static int cOf(int point) {
            return (point & 31) - BENDS;
        }

        /** The size of the row of points with one more, less those that are no more on the hull from begin on. */
        private static int added(int[] points, int begin, int size, int point, int side) {
            int top = size;
            while (top - begin >= 2 && side * turn(points[top - 2], points[top - 1], point) >= 0) {
                top--;
            }
            if (top < points.length) {
                points[top] = point;
                top++;
            }
            return top;
        }

        /** Above 0 if the middle one lies above the way from the first to the last, 0 if on it. */
        private static int turn(int first, int middle, int last) {
            return (aOf(middle) - aOf(first)) * (bOf(last) - bOf(first))
                - (aOf(last) - aOf(first)) * (bOf(middle) - bOf(first));
        }

        boolean someHolds(int slip) {
            putPlaces(slip);
            for (int b = 1; b <= SLOPES; b++) {
                for (int c = -BENDS; c <= BENDS; c++) {
                    if (meetsAll(b, c)) {
                        return true;
                    }
                }
            }
            return false;
        }

        private void putPlaces(int slip) {
            Knowns knowns = desk.knowns;
            for (int k = 0; k < knowns.size; k++) {
                int place = desk.screw.truePlace(knowns.place[k], knowns.down[k]);
                places[k] = knowns.spark[k] ? place + slip : place;
            }
        }

        /** Leaves the least and the greatest A in lowA and highA. */
        private boolean meetsAll(int b, int c) {
            Knowns knowns = desk.knowns;
            lowA = 0;
            highA = LAST_A;
            for (int k = 0; k < knowns.size && lowA <= highA; k++) {
                int rise = Math.floorDiv((1000 * b + c * places[k]) * places[k], 10000);
                lowA = Math.max(lowA, knowns.wave[k] - rise - knowns.error);
                highA = Math.min(highA, knowns.wave[k] - rise + knowns.error);
            }
            return lowA <= highA;
        }

        /** Where the span at a true place stands, measured by now; NONE if there is no span. */
        int slotOf(int truePlace) {
            int slot = truePlace - LOWEST;
            if (total == 0 || slot < 0 || slot >= spanLow.length) {
                return NONE;
            }
            if (spanLow[slot] == UNMEASURED) {
                measure(truePlace, slot);
            }
            return slot;
        }

        /** Rounding down keeps the order, so that it is done once, to the least and to the greatest. */
        private void measure(int truePlace, int slot) {
            int low = FAR;
            for (int n = 0; n < lowSize; n++) {
                low = Math.min(low, height(lowPoints[n], truePlace));
            }
            int high = -FAR;
            for (int n = 0; n < highSize; n++) {
                high = Math.max(high, height(highPoints[n], truePlace));
            }
            spanLow[slot] = Math.floorDiv(low, 10000) - desk.knowns.error;
            spanHigh[slot] = Math.floorDiv(high, 10000) + desk.knowns.error;
        }

        private static int height(int point, int place) {
            return 10000 * aOf(point) + (1000 * bOf(point) + cOf(point) * place) * place;
        }
    }

    /** What sets of elements are to the plate that was opened last. */
    private static final class Judge {
        static final int SPEEDS = 2 * TOP_SPEED + 1;

        final Desk desk;
        final Laws solver;
        final int[] low = new int[MOST_READINGS];
        final int[] high = new int[MOST_READINGS];
        final int[] inside = new int[MOST_READINGS];
        final int[] coveredBy = new int[MOST_ELEMENTS];
        final int[] missingOf = new int[MOST_ELEMENTS];
        final int[] firstStar = new int[SPEEDS];
        final int[] secondStar = new int[SPEEDS];
        final int[] pile = new int[Claim.PILE];
        int plate;
        int mine;
        int ghosts;
        int covered;
        int missing;
        int howMany;
        int fewest;
        int sure;
        int may;

        Judge(Desk desk, Laws solver) {
            this.desk = desk;
            this.solver = solver;
        }

        void open(int somePlate) {
            solver.solve();
            plate = somePlate;
            mine = 0;
            ghosts = 0;
            for (int r = 0; r < desk.shelf.readings; r++) {
                putNoSpan(r);
                if (desk.shelf.plate[r] == plate) {
                    mine |= 1 << r;
                    ghosts |= desk.shelf.mayBeGhost(r) ? 1 << r : 0;
                    putSpan(r, 0);
                }
            }
        }

        private void putNoSpan(int r) {
            low[r] = 1;
            high[r] = 0;
        }

        private void putSpan(int r, int ticks) {
            int slot = solver.slotOf(desk.screw.truePlace(desk.shelf.place[r], desk.shelf.down[r]) + ticks);
            if (slot == NONE) {
                putNoSpan(r);
                return;
            }
            low[r] = solver.spanLow[slot];
            high[r] = solver.spanHigh[slot];
        }

        boolean hasSpan(int r) {
            return low[r] <= high[r];
        }

        private int holders(int wave) {
            int bits = 0;
            for (int r = 0; r < desk.shelf.readings; r++) {
                if (within(wave, low[r], high[r])) {
                    bits |= 1 << r;
                }
            }
            return bits;
        }

        /** Leaves which readings the lines of these elements lie in, and how many that must be seen lie in none. */
        void survey(int elements, int speed) {
            covered = 0;
            missing = 0;
            for (int e = 0; e < desk.table.size; e++) {
                for (int l = 0; has(elements, e) && l < desk.table.lines[e]; l++) {
                    int wave = desk.table.liesAt(e, l, speed);
                    int holders = holders(wave);
                    covered |= holders;
                    if (holders == 0 && desk.shelf.mustShow(plate, wave, desk.table.strength[e * MOST_LINES + l])) {
                        missing++;
                    }
                }
            }
        }

        boolean isExplained(int set, int speed) {
            survey(desk.table.withAir(set), speed);
            return missing == 0 && (mine & ~ghosts & ~covered) == 0;
        }

        int leftBits(int set, int speed) {
            survey(desk.table.withAir(set), speed);
            return mine & ~ghosts & ~covered;
        }

        /** Readings come first and one by one, since most drifts fail at the first of them and spans are dear. */
        boolean isExplainedAdrift(int set, int ticks) {
            int elements = desk.table.withAir(set);
            for (int r = 0; r < desk.shelf.readings; r++) {
                if (has(mine, r)) {
                    putSpan(r, ticks);
                    if (!has(ghosts, r) && linesInside(elements, r) == 0) {
                        return false;
                    }
                }
            }
            survey(elements, 0);
            return missing == 0;
        }

        private int linesInside(int elements, int r) {
            int many = 0;
            for (int e = 0; e < desk.table.size; e++) {
                for (int l = 0; has(elements, e) && l < desk.table.lines[e]; l++) {
                    if (within(desk.table.wave[e * MOST_LINES + l], low[r], high[r])) {
                        many++;
                    }
                }
            }
            return many;
        }

        void tallySets() {
            for (int e = 0; e < desk.table.size; e++) {
                survey(1 << e, 0);
                coveredBy[e] = covered;
                missingOf[e] = missing;
            }
            int all = desk.table.withoutAir(-1);
            howMany = 0;
            fewest = NONE;
            sure = all;
            may = 0;
            for (int set = 0; set <= all; set++) {
                if ((set & ~all) == 0 && isTalliedAsExplained(desk.table.withAir(set))) {
                    howMany++;
                    sure &= set;
                    may |= set;
                    if (fewest == NONE || Integer.bitCount(set) < Integer.bitCount(fewest)) {
                        fewest = set;
                    }
                }
            }
            if (howMany == 0) {
                sure = 0;
            }
        }

        private boolean isTalliedAsExplained(int elements) {
            int open = mine & ~ghosts;
            for (int e = 0; e < desk.table.size; e++) {
                if (has(elements, e)) {
                    if (missingOf[e] > 0) {
                        return false;
                    }
                    open &= ~coveredBy[e];
                }
            }
            return open == 0;
        }

        private void countInside(int elements) {
            for (int r = 0; r < desk.shelf.readings; r++) {
                inside[r] = linesInside(elements, r);
            }
        }

        int amountBits(int set, int element) {
            countInside(desk.table.withAir(set | 1 << element));
            int bits = 0;
            for (int amount = 1; amount <= 9; amount++) {
                if (amountFits(element, amount)) {
                    bits |= 1 << amount;
                }
            }
            return bits;
        }

        private boolean amountFits(int element, int amount) {
            for (int l = 0; l < desk.table.lines[element]; l++) {
                int at = element * MOST_LINES + l;
                int strength = desk.table.strength[at];
                if (desk.shelf.mustShow(plate, desk.table.wave[at], strength)
                        && !isSeenAs(desk.table.wave[at], shown(strength, amount))) {
                    return false;
                }
            }
            return true;
        }

        /** Only readings that hold this line alone can speak of it. */
        private boolean isSeenAs(int wave, int strength) {
            for (int r = 0; r < desk.shelf.readings; r++) {
                if (inside[r] == 1 && within(wave, low[r], high[r])
                        && !within(desk.shelf.strength[r] - strength, -1, 1)) {
                    return false;
                }
            }
            return true;
        }

        private static int shown(int strength, int amount) {
            int bright = Math.min(9, strength * amount / 5);
            return amount > 6 && strength >= 7 ? Math.max(0, bright - 2 * (amount - 6)) : bright;
        }

        int wideBits(int set) {
            countInside(desk.table.withAir(set));
            int bits = 0;
            for (int r = 0; r < desk.shelf.readings; r++) {
                if (has(mine, r) && desk.shelf.width[r] > desk.shelf.slit[plate] && inside[r] < 2) {
                    bits |= 1 << r;
                }
            }
            return bits;
        }

        int sharedBits(int set) {
            int elements = desk.table.withAir(set);
            int once = 0;
            int twice = 0;
            for (int e = 0; e < desk.table.size; e++) {
                if (has(elements, e)) {
                    survey(1 << e, 0);
                    twice |= once & covered;
                    once |= covered;
                }
            }
            return twice;
        }

        int misprintReading(int element, int line, int left) {
            int at = element * MOST_LINES + line;
            int wave = desk.table.wave[at];
            if (!desk.shelf.mustShow(plate, wave, desk.table.strength[at]) || holders(wave) != 0) {
                return NONE;
            }
            int candidates = holders(swapped(wave, 1)) | holders(swapped(wave, 10)) | holders(swapped(wave, 100));
            for (int r = 0; r < desk.shelf.readings; r++) {
                if (has(candidates & left, r)) {
                    return r;
                }
            }
            return NONE;
        }

        /** The number with the figure at a unit (1, 10, 100) and the one ahead of it changed with one another. */
        private static int swapped(int number, int unit) {
            if (unit < 1) {
                return number;
            }
            int behind = number / unit % 10;
            int ahead = number / unit / 10 % 10;
            return number + 9 * unit * (behind - ahead);
        }

        int alikeBits(int second) {
            int bits = 0;
            for (int s = 0; s < desk.shelf.readings; s++) {
                if (desk.shelf.plate[s] == second) {
                    int slot = solver.slotOf(desk.screw.truePlace(desk.shelf.place[s], desk.shelf.down[s]));
                    if (slot != NONE) {
                        bits |= meeting(solver.spanLow[slot], solver.spanHigh[slot]);
                    }
                }
            }
            return bits;
        }

        private int meeting(int from, int to) {
            int bits = 0;
            for (int r = 0; r < desk.shelf.readings; r++) {
                if (hasSpan(r) && low[r] <= to && from <= high[r]) {
                    bits |= 1 << r;
                }
            }
            return bits;
        }

        /** How many pairs of speeds (what 0), or the first (1) or second (2) speed of the first pair. */
        int pairStars(int first, int second, int what) {
            survey(desk.table.airBits(), 0);
            int open = mine & ~ghosts & ~covered;
            boolean airIsSeen = missing == 0;
            putStar(firstStar, desk.table.withoutAir(first));
            putStar(secondStar, desk.table.withoutAir(second));
            int many = 0;
            for (int one = 0; airIsSeen && one < SPEEDS; one++) {
                for (int other = 0; firstStar[one] != NONE && other < SPEEDS; other++) {
                    if (secondStar[other] != NONE && (open & ~firstStar[one] & ~secondStar[other]) == 0) {
                        if (what != 0) {
                            return (what == 1 ? one : other) - TOP_SPEED;
                        }
                        many++;
                    }
                }
            }
            return what == 0 ? many : NO_NUMBER;
        }

        /** For each speed the readings that the set covers; NONE where it misses a line. */
        private void putStar(int[] star, int elements) {
            for (int n = 0; n < SPEEDS && n < star.length; n++) {
                survey(elements, n - TOP_SPEED);
                star[n] = missing > 0 ? NONE : covered;
            }
        }
    }

    /** How likely a bell on the opened plate is by each maker. */
    private static final class Bells {
        final Desk desk;
        final Judge judge;
        final int[] fitting = new int[MOST_ELEMENTS];
        int above;
        int below;

        Bells(Desk desk, Judge judge) {
            this.desk = desk;
            this.judge = judge;
        }

        /** What fits is one for all makers, so that it is found once for all of them. */
        void weigh(int set) {
            int elements = desk.table.withoutAir(set);
            for (int e = 0; e < desk.table.size; e++) {
                fitting[e] = has(elements, e) ? judge.amountBits(set, e) : 0;
            }
        }

        void reckon(int set, int maker) {
            int elements = desk.table.withoutAir(set);
            above = 1;
            below = 1;
            for (int e = 0; e < desk.table.size; e++) {
                int at = maker * MOST_ELEMENTS + e;
                if (has(elements, e)) {
                    int asTold = fitting[e] & amountsFromTo(desk.recipeLow[at], desk.recipeHigh[at]);
                    above *= Integer.bitCount(asTold);
                    below *= Integer.bitCount(fitting[e]);
                } else if (!desk.table.air[e] && desk.recipeLow[at] > 0) {
                    above = 0;
                }
            }
            int common = commonPart(above, below);
            if (above == 0 || common == 0) {
                above = 0;
                below = 1;
                return;
            }
            above /= common;
            below /= common;
        }

        private static int amountsFromTo(int low, int high) {
            int bits = 0;
            for (int amount = low; amount <= high && amount <= 9; amount++) {
                bits |= 1 << amount;
            }
            return bits;
        }

        private static int commonPart(int one, int other) {
            int greater = Math.max(one, other);
            int less = Math.min(one, other);
            for (int n = 0; n < 64 && less != 0; n++) {
                int rest = greater % less;
                greater = less;
                less = rest;
            }
            return greater;
        }

        int likeliest(int set) {
            int best = NONE;
            long bestAbove = 0;
            long bestBelow = 1;
            for (int m = 0; m < desk.makerCount; m++) {
                reckon(set, m);
                if (above * bestBelow > bestAbove * below) {
                    best = m;
                    bestAbove = above;
                    bestBelow = below;
                }
            }
            return best;
        }

        boolean isBeaten(int set, int maker) {
            reckon(set, maker);
            long ownAbove = above;
            long ownBelow = below;
            for (int m = 0; m < desk.makerCount; m++) {
                reckon(set, m);
                if (above * ownBelow > ownAbove * below) {
                    return true;
                }
            }
            return false;
        }
    }

    /** Unknown lines of the opened plate as numbers, their steps and sums. */
    private static final class Rows {
        static final int MOST_NUMBERS = 10;

        final Desk desk;
        final Judge judge;
        final int[] number = new int[MOST_NUMBERS];
        final int[] partners = new int[MOST_NUMBERS];
        final byte[] matched = new byte[1 << MOST_NUMBERS];
        int size;
        int pairs;
        int begin;

        Rows(Desk desk, Judge judge) {
            this.desk = desk;
            this.judge = judge;
        }

        void gather(int set) {
            int left = judge.leftBits(set, 0);
            size = 0;
            for (int r = 0; r < desk.shelf.readings && size < MOST_NUMBERS; r++) {
                int middle = Math.floorDiv(judge.low[r] + judge.high[r], 2);
                if (has(left, r) && judge.hasSpan(r) && middle >= 1) {
                    number[size] = 10000000 / middle;
                    size++;
                }
            }
        }

        void arrange(int off) {
            pairs = 0;
            begin = NONE;
            int step = leastStepAbove(0);
            for (int n = 0; n < 45 && step != NONE && pairs < size / 2; n++) {
                int edges = putPartners(step, step + off);
                int many = edges > pairs ? mostPairs() : 0;
                if (many > pairs) {
                    pairs = many;
                    begin = step;
                }
                step = leastStepAbove(step);
            }
        }

        private int leastStepAbove(int bound) {
            int least = NONE;
            for (int i = 0; i < size; i++) {
                for (int j = 0; j < i; j++) {
                    int step = Math.abs(number[i] - number[j]);
                    if (step > bound && (least == NONE || step < least)) {
                        least = step;
                    }
                }
            }
            return least;
        }

        private int putPartners(int from, int to) {
            int edges = 0;
            for (int i = 0; i < size; i++) {
                partners[i] = 0;
                for (int j = 0; j < i; j++) {
                    if (within(Math.abs(number[i] - number[j]), from, to)) {
                        partners[i] |= 1 << j;
                        edges++;
                    }
                }
            }
            return edges;
        }

        /** For each set of readings, by its last one, the most pairs: that one stays alone, or goes with a partner. */
        private int mostPairs() {
            matched[0] = 0;
            for (int i = 0; i < size; i++) {
                for (int rest = 0; rest < 1 << i; rest++) {
                    int free = partners[i] & rest;
                    byte best = matched[rest];
                    for (int j = 0; j < i && free != 0; j++) {
                        if (has(free, j) && matched[rest - (1 << j)] + 1 > best) {
                            best = (byte) (matched[rest - (1 << j)] + 1);
                        }
                    }
                    matched[(1 << i) + rest] = best;
                }
            }
            return matched[(1 << size) - 1];
        }

        int countSums(int off) {
            int many = 0;
            for (int i = 0; i < size; i++) {
                for (int j = 0; j < i; j++) {
                    for (int k = 0; k < j; k++) {
                        if (isSum(number[i], number[j], number[k], off) || isSum(number[j], number[i], number[k], off)
                                || isSum(number[k], number[i], number[j], off)) {
                            many++;
                        }
                    }
                }
            }
            return many;
        }

        private static boolean isSum(int whole, int one, int other, int off) {
            return Math.abs(whole - one - other) <= off;
        }
    }

    /**
     * The tape, and the reading of it as a claim: first into signs, each with its begin, then by
     * the grammar into a row of steps for Claim.
     */
    private static final class Reader {
        static final int OPEN = 14;
        static final int CLOSE = 15;
        /** A sign that can stand nowhere. */
        static final int STRANGE = 16;
        static final int END = 17;
        static final int DEEPEST = 6;
        static final int MOST_DIGITS = 4;

        final byte[] tape = new byte[MOST_BYTES];
        final int[] sign = new int[MOST_BYTES + 1];
        final int[] begin = new int[MOST_BYTES + 1];
        final int[] code = new int[MOST_BYTES];
        int length;
        int signs;
        int at;
        int size;
        int wrong = NONE;

        void take(int number) {
            for (int shift = 24; shift >= 0 && length < MOST_BYTES; shift -= 8) {
                tape[length] = (byte) (number >> shift);
                length++;
            }
        }

        boolean readText() {
            split();
            at = 0;
            size = 0;
            wrong = NONE;
            return readAny(0) && (takeSign(END) || fail());
        }

        private void split() {
            signs = 0;
            int from = 0;
            for (int n = 0; n < MOST_BYTES && from < length; n++) {
                int to = signEnd(from);
                if (tape[from] != ' ') {
                    begin[signs] = from;
                    sign[signs] = signOf(from, to);
                    signs++;
                }
                from = to;
            }
            begin[signs] = length;
            sign[signs] = END;
        }

        /** Letters that go on are one word and digits that go on one number, however long. */
        private int signEnd(int from) {
            int to = from + 1;
            boolean word = isLetter(from);
            boolean number = isDigit(from);
            for (int n = 0; n < MOST_BYTES && (word && isLetter(to) || number && isDigit(to)); n++) {
                to++;
            }
            return to;
        }

        private boolean isLetter(int n) {
            return n >= 0 && n < length && within(tape[n], 'a', 'z');
        }

        private boolean isDigit(int n) {
            return n >= 0 && n < length && within(tape[n], '0', '9');
        }

        /** The kind of what stands there, with the value of a number behind it as in code. */
        private int signOf(int from, int to) {
            if (isLetter(from)) {
                return wordOf(from, to);
            }
            if (isDigit(from)) {
                return to - from > MOST_DIGITS ? STRANGE : coded(Claim.NUMBER, valueOf(from, to));
            }
            switch (tape[from]) {
                case '(': return OPEN;
                case ')': return CLOSE;
                case '<': return Claim.LESS;
                case '>': return Claim.MORE;
                case '+': return Claim.ADD;
                default: return STRANGE;
            }
        }

        private int valueOf(int from, int to) {
            int value = 0;
            for (int n = from; n < to && isDigit(n); n++) {
                value = 10 * value + tape[n] - '0';
            }
            return value;
        }

        private int wordOf(int from, int to) {
            if (isWord(from, to, "or")) {
                return Claim.OR;
            }
            if (isWord(from, to, "and")) {
                return Claim.AND;
            }
            if (isWord(from, to, "not")) {
                return Claim.NOT;
            }
            if (isWord(from, to, "sure")) {
                return Claim.SURE;
            }
            if (isWord(from, to, "may")) {
                return Claim.MAY;
            }
            return partOf(from, to);
        }

        private int partOf(int from, int to) {
            if (isWord(from, to, "sets")) {
                return Claim.SETS;
            }
            if (isWord(from, to, "fewest")) {
                return Claim.FEWEST;
            }
            if (isWord(from, to, "readings")) {
                return Claim.READINGS;
            }
            if (isWord(from, to, "ghosts")) {
                return Claim.GHOSTS;
            }
            return isWord(from, to, "laws") ? Claim.LAWS : STRANGE;
        }

        private boolean isWord(int from, int to, String word) {
            if (to - from != word.length() || from < 0 || to > MOST_BYTES) {
                return false;
            }
            for (int n = 0; n < word.length(); n++) {
                if (tape[from + n] != word.charAt(n)) {
                    return false;
                }
            }
            return true;
        }

        private boolean readAny(int depth) {
            if (!readAll(depth)) {
                return false;
            }
            for (int n = 0; n < MOST_BYTES && takeSign(Claim.OR); n++) {
                if (!readAll(depth)) {
                    return false;
                }
                emit(Claim.OR);
            }
            return true;
        }

        private boolean readAll(int depth) {
            if (!readAtom(depth)) {
                return false;
            }
            for (int n = 0; n < MOST_BYTES && takeSign(Claim.AND); n++) {
                if (!readAtom(depth)) {
                    return false;
                }
                emit(Claim.AND);
            }
            return true;
        }

        private boolean readAtom(int depth) {
            if (depth < DEEPEST && takeSign(OPEN)) {
                return readAny(depth + 1) && (takeSign(CLOSE) || fail());
            }
            if (depth < DEEPEST && takeSign(Claim.NOT)) {
                return readAtom(depth + 1) && emit(Claim.NOT);
            }
            if (takeSign(Claim.SURE)) {
                return readElement(Claim.SURE);
            }
            if (takeSign(Claim.MAY)) {
                return readElement(Claim.MAY);
            }
            if (!readSum()) {
                return false;
            }
            int compared = takeSign(Claim.LESS) ? Claim.LESS : takeSign(Claim.MORE) ? Claim.MORE : STRANGE;
            return compared == STRANGE ? fail() : readSum() && emit(compared);
        }

        private boolean readElement(int step) {
            int value = sign[at] / Claim.STEPS;
            if (!nextIs(Claim.NUMBER) || value >= MOST_ELEMENTS) {
                return fail();
            }
            at++;
            return emit(coded(step, value));
        }

        private boolean readSum() {
            for (int n = 0; n < MOST_BYTES; n++) {
                if (sign[at] % Claim.STEPS > Claim.LAWS) {
                    return fail();
                }
                emit(sign[at]);
                at++;
                if (n > 0) {
                    emit(Claim.ADD);
                }
                if (!takeSign(Claim.ADD)) {
                    return true;
                }
            }
            return fail();
        }

        private boolean nextIs(int kind) {
            return sign[at] % Claim.STEPS == kind;
        }

        /** The end is never gone past, since only what stands ahead of it is taken by more than this. */
        private boolean takeSign(int kind) {
            if (!nextIs(kind)) {
                return false;
            }
            if (at < signs) {
                at++;
            }
            return true;
        }

        private boolean emit(int step) {
            if (size < MOST_BYTES) {
                code[size] = step;
                size++;
            }
            return true;
        }

        private boolean fail() {
            wrong = begin[at];
            return false;
        }

        private static int coded(int step, int value) {
            return step + Claim.STEPS * value;
        }
    }

    /** A claim as steps over a pile of numbers, operands ahead of what is done with them; true is 1. */
    private static final class Claim {
        static final int NUMBER = 0;
        static final int SETS = 1;
        static final int FEWEST = 2;
        static final int READINGS = 3;
        static final int GHOSTS = 4;
        static final int LAWS = 5;
        static final int SURE = 6;
        static final int MAY = 7;
        static final int NOT = 8;
        static final int ADD = 9;
        static final int LESS = 10;
        static final int MORE = 11;
        static final int AND = 12;
        static final int OR = 13;
        /** A step is one of these, and this many times its value more. */
        static final int STEPS = 32;
        static final int MOST_LAWS = 9999;
        /** More than seven levels can need, each with an or and an and, the last with three numbers. */
        static final int PILE = 32;

        final int[] code;

        Claim(int[] code, int size) {
            this.code = Arrays.copyOf(code, size);
        }

        boolean isTrue(Judge judge) {
            int[] pile = judge.pile;
            int top = 0;
            for (int n = 0; n < code.length; n++) {
                int step = code[n] % STEPS;
                if (step < NOT && top < PILE) {
                    pile[top] = found(step, code[n] / STEPS, judge);
                    top++;
                } else if (step == NOT && top >= 1) {
                    pile[top - 1] = 1 - pile[top - 1];
                } else if (step > NOT && top >= 2) {
                    top--;
                    pile[top - 1] = joined(step, pile[top - 1], pile[top]);
                }
            }
            return top > 0 && pile[0] == 1;
        }

        private static int found(int step, int value, Judge judge) {
            switch (step) {
                case SETS: return judge.howMany;
                case FEWEST: return judge.fewest == NONE ? NO_NUMBER : Integer.bitCount(judge.fewest);
                case READINGS: return Integer.bitCount(judge.mine);
                case GHOSTS: return Integer.bitCount(judge.ghosts);
                case LAWS: return Math.min(judge.solver.total, MOST_LAWS);
                case SURE: return judge.sure >> value & 1;
                case MAY: return judge.may >> value & 1;
                default: return value;
            }
        }

        private static int joined(int step, int one, int other) {
            switch (step) {
                case ADD: return one + other;
                case LESS: return one < other ? 1 : 0;
                case MORE: return one > other ? 1 : 0;
                case AND: return one & other;
                default: return one | other;
            }
        }
    }
}
