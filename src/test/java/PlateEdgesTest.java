/** Promises 30 to 35: each sentence that names a boundary, in a method of its own named by its promise. */
public final class PlateEdgesTest extends Edges {
    public static void main(String[] args) throws Exception {
        Checks.runPromises(PlateEdgesTest.class, 30, 35);
    }

    private static void dueRows(String what, RainbowPlate x, int off, int pairs, int step) {
        due(what + ": pairs", x.rows(0, 0, off, false), pairs);
        due(what + ": step", x.rows(0, 0, off, true), step);
    }

    static void promise30OffFrom0To999() {
        due("0", Make.waves(2000, 2500).rows(0, 0, 0, false), 1);
        due("999", Make.waves(2000, 2500).rows(0, 0, 999, false), 1);
        for (int off : Checks.outside(0, 999)) {
            refused("off " + off, ILLEGAL, y -> y.rows(0, 0, off, false));
            refused("step, off " + off, ILLEGAL, y -> y.rows(0, 0, off, true));
        }
    }

    static void promise30PlatesThatAreThere() {
        for (int plate : Checks.outside(0, 1)) {
            refused("plate " + plate, INDEX, y -> y.rows(plate, 0, 0, false));
            refused("no plate ahead of no number " + plate, INDEX, y -> y.rows(plate, 0, 1000, true));
        }
        refusedByFresh("without any", INDEX, y -> y.rows(0, 0, 0, false));
    }

    static void promise30WithoutPairs() {
        dueRows("no reading", Make.waves(), 999, 0, -1);
        dueRows("one reading", Make.waves(2000), 999, 0, -1);
        dueRows("a step is above 0", Make.waves(2000, 2000), 999, 0, -1);
    }

    static void promise30AStepOf1() {
        // 10000000 by 5995 is 1668, by 5990 it is 1669
        dueRows("the least that there is", Make.waves(5995, 5990), 0, 1, 1);
    }

    static void promise30StepsAreOffByTheNumberAtMost() {
        // 5000 and 4000, 2500 and 2000: steps of 1000 and 500
        RainbowPlate x = Make.waves(2000, 2500, 4000, 5000);
        dueRows("500", x, 500, 2, 500);
        dueRows("499", x, 499, 1, 500);
        dueRows("0", x, 0, 1, 500);
    }

    static void promise30NoReadingInTwoOfThem() {
        dueRows("three, two steps alike by one reading", Make.waves(2500, 2000, 2500), 0, 1, 1000);
        dueRows("four, two by two", Make.waves(2500, 2000, 2500, 2000), 0, 2, 1000);
        dueRows("a star of four about one", Make.waves(2000, 2500, 2500, 2500, 2500), 0, 1, 1000);
    }

    static void promise30OnlyTheFirst10() {
        RainbowPlate x = Make.waves(2000, 2000, 2000, 2000, 2000, 2000, 2000, 2000, 2000, 2000, 2500);
        dueRows("the 11th is otherwise", x, 999, 0, -1);
        RainbowPlate y = Make.waves(2000, 2000, 2000, 2000, 2000, 2000, 2000, 2000, 2000, 2500, 2500);
        dueRows("the 10th is otherwise", y, 999, 1, 1000);
        RainbowPlate z = Make.waves(2000, 2500, 2000, 2500, 2000, 2500, 2000, 2500, 2000, 2500, 2000, 2500);
        dueRows("five pairs of ten", z, 0, 5, 1000);
    }

    static void promise30TheFirst10OfThoseLeft() {
        RainbowPlate x = Make.waves(5000, 2000, 2000, 2000, 2000, 2000, 2000, 2000, 2000, 2000, 2500);
        x.line(0, 5000, 1);
        due("the first is not left, so that the 11th is the 10th", x.rows(0, 1, 0, true), 1000);
        due("by the empty set it is", x.rows(0, 0, 0, true), 3000);
    }

    static void promise30FewOfAll24() {
        RainbowPlate x = Make.waves(2000);
        x.line(0, 5000, 1);
        for (int n = 0; n < 22; n++) {
            x.reading(0, 800, false, 1, 1);
        }
        x.reading(0, 300, false, 1, 1);
        due("the first and the last are left", x.rows(0, 1, 0, false), 1);
        due("their step", x.rows(0, 1, 0, true), 1000);
        due("no sums", x.sums(0, 1, 999), 0);
    }

    static void promise30AMiddleOfAtLeast1() {
        for (int a = 0; a <= 1; a++) {
            RainbowPlate x = new RainbowPlate();
            x.error(0);
            x.known(112, false, 1008 + a, false);
            x.known(500, false, 4500 + a, false);
            x.known(900, false, 8100 + a, false);
            x.plate(1, 1, 1000, 9999, 0);
            x.reading(0, 0, false, 1, 1);
            x.reading(0, 1, false, 1, 1);
            // waves 0 and 9, or 1 and 10: numbers 1111111, or 10000000 and 1000000
            dueRows("a middle of " + a, x, 0, a, a == 0 ? -1 : 9000000);
        }
    }

    static void promise30TheFirst10OfThoseWithAMiddle() {
        RainbowPlate x = new RainbowPlate();
        x.error(0);
        x.known(112, false, 1008, false);
        x.known(500, false, 4500, false);
        x.known(900, false, 8100, false);
        x.plate(1, 1, 1000, 9999, 0);
        for (int n = 0; n < 10; n++) {
            x.reading(0, 0, false, 1, 1);
        }
        x.reading(0, 100, false, 1, 1);
        x.reading(0, 200, false, 1, 1);
        // ten middles of 0 count for nothing; 900 and 1800: 11111 and 5555
        dueRows("behind ten without", x, 0, 1, 5556);
    }

    static void promise30WithoutSpans() {
        RainbowPlate x = Make.lawless();
        x.reading(0, 200, false, 1, 1);
        x.reading(0, 300, false, 1, 1);
        dueRows("none", x, 999, 0, -1);
        due("but left", x.left(0, 0, 0), 3);
    }

    static void promise30TheMiddleIsRoundedDown() {
        RainbowPlate x = new RainbowPlate();
        x.plate(1, 1, 1000, 9999, 0);
        x.reading(0, 0, false, 1, 1);
        x.reading(0, 100, false, 1, 1);
        // all laws: -2 to 10001, middle 4999, number 2000; -1 to 10910, middle 5454, number 1833
        dueRows("two middles", x, 0, 1, 167);
    }

    static void promise30TheLeastStepWithWhichSoManyBegin() {
        // numbers 5000 4000 5000 4000 2000: steps of 1000 four times, 2000 and 3000 each twice
        RainbowPlate x = Make.waves(2000, 2500, 2000, 2500, 5000);
        dueRows("two of 1000", x, 0, 2, 1000);
        // 5000 2000 5000 2000 2500: 500 and 2500 and 3000
        RainbowPlate y = Make.waves(2000, 5000, 2000, 5000, 4000);
        dueRows("two of 3000", y, 0, 2, 3000);
        dueRows("2500 and 3000", y, 500, 2, 2500);
        dueRows("still by 999", y, 999, 2, 2500);
        // 5000 2500 2500 2000: 500 twice and 2500 twice, each by one reading
        dueRows("of steps that are as good the least", Make.waves(2000, 4000, 4000, 5000), 0, 1, 500);
    }

    static void promise31WavesFrom1000To9999() {
        RainbowPlate x = Make.rich();
        due("1000 to 9999", x.next(0, 0, 1000, 9999), -1);
        due("1000 to 1000", x.next(0, 0, 1000, 1000), -1);
        due("9999 to 9999", x.next(0, 0, 9999, 9999), -1);
        for (int wave : Checks.outside(1000, 9999)) {
            refused("from " + wave, ILLEGAL, y -> y.next(0, 0, wave, 9999));
            refused("to " + wave, ILLEGAL, y -> y.next(0, 0, 1000, wave));
            refused("from and to " + wave, ILLEGAL, y -> y.next(0, 0, wave, wave));
        }
    }

    static void promise31TheSecondNotBelowTheFirst() {
        due("the same", Make.rich().next(0, 0, 5000, 5000), -1);
        refused("1 below", ILLEGAL, y -> y.next(0, 0, 5000, 4999));
    }

    private static RainbowPlate two(int wave, int strength) {
        RainbowPlate x = new RainbowPlate();
        x.element(false);
        x.element(false);
        x.element(true);
        x.line(0, wave, strength);
        return x;
    }

    static void promise31FromOneWaveToTheOther() {
        RainbowPlate x = two(5000, 6);
        due("on it alone", x.next(1, 0, 5000, 5000), 15);
        due("at the first", x.next(1, 0, 5000, 9999), 15);
        due("at the last", x.next(1, 0, 1000, 5000), 15);
        due("behind it", x.next(1, 0, 5001, 9999), -1);
        due("ahead of it", x.next(1, 0, 1000, 4999), -1);
    }

    static void promise31WithoutElements() {
        due("none", new RainbowPlate().next(-1, -2, 1000, 9999), -1);
        due("lines of no set", two(5000, 9).next(0, 0, 1000, 9999), -1);
        due("the same set", two(5000, 9).next(1, 1, 1000, 9999), -1);
    }

    static void promise31BitsOfSetsOfNone() {
        due("a", two(5000, 6).next(-8, 1, 1000, 9999), 15);
        due("b", two(5000, 6).next(1, Integer.MIN_VALUE, 1000, 9999), 15);
        due("both", two(5000, 6).next(-8, -8, 1000, 9999), -1);
    }

    static void promise31StrengthTimesTimeTimesSlitAtLeast30() {
        int[] due = {65, 35, 25, 24, 23, 15, 15, 14, 14};
        for (int strength = 1; strength <= 9; strength++) {
            due("strength " + strength, two(5000, strength).next(1, 0, 1000, 9999), due[strength - 1]);
        }
    }

    static void promise31MoreThan2TimesSlitFromTheOther() {
        // a strength of 9 by slits of 5, 4, 3, 2, 1 needs times of 1, 1, 2, 2, 4
        int[] apart = {2, 3, 4, 5, 6, 7, 8, 9, 10, 11};
        int[] due = {-1, 41, 41, 22, 22, 22, 22, 14, 14, 14};
        for (int n = 0; n < apart.length; n++) {
            for (int side = -1; side <= 1; side += 2) {
                RainbowPlate x = two(5000, 9);
                x.line(1, 5000 + side * apart[n], 1);
                String what = side * apart[n] + " from ";
                due(what + "the other", x.next(1, 2, 5000, 5000), due[n]);
                due(what + "the other, told first", x.next(2, 1, 5000, 5000), due[n]);
                RainbowPlate y = two(5000, 9);
                y.line(2, 5000 + side * apart[n], 1);
                due(what + "air", y.next(1, 0, 5000, 5000), due[n]);
            }
        }
    }

    static void promise31TheLeastTimeThenTheLeastSlit() {
        RainbowPlate x = two(5000, 1);
        // 9 from the other: slits to 4, and 30 by 4 needs a time of 8
        x.line(1, 5009, 1);
        due("slit 4", x.next(1, 2, 5000, 5000), 84);
        // 7 from it: slits to 3, and 30 by 3 would need a time of 10
        x.line(1, 5007, 1);
        due("slit 3", x.next(1, 2, 5000, 5000), -1);
        RainbowPlate y = two(5000, 4);
        y.line(1, 5003, 1);
        due("slit 1, time 8", y.next(1, 2, 5000, 5000), 81);
        RainbowPlate z = two(5000, 3);
        z.line(1, 5003, 1);
        due("slit 1, time 10", z.next(1, 2, 5000, 5000), -1);
    }

    static void promise31LinesOfAirPartNothing() {
        RainbowPlate x = new RainbowPlate();
        x.element(true);
        x.line(0, 5000, 9);
        due("air", x.next(1, 0, 1000, 9999), -1);
    }

    static void promise31SixLinesOfOneAreNotTheNexts() {
        RainbowPlate x = new RainbowPlate();
        x.element(false);
        x.element(false);
        for (int n = 0; n < 6; n++) {
            x.line(0, 5000, 1);
        }
        x.line(1, 6000, 9);
        due("the line of the other is not of the first", x.next(1, 0, 1000, 9999), 65);
        due("nor does it stand near for it", x.next(2, 1, 6000, 6000), 14);
    }

    static void promise32WhatIsNotThere() {
        for (int n : Checks.outside(0, 1)) {
            refused("plate " + n, INDEX, y -> y.misprint(n, 0));
        }
        for (int n : Checks.outside(0, 2)) {
            refused("element " + n, INDEX, y -> y.misprint(0, n));
        }
        refusedByFresh("without anything", INDEX, y -> y.misprint(0, 0));
    }

    private static void readingAt(RainbowPlate x, int wave) {
        x.reading(0, (wave - 1000) / 5, false, 1, 1);
    }

    /** The element's only line is at one wave, and the only reading at another. */
    private static int misprinted(int wave, int seen) {
        RainbowPlate x = Make.bright();
        x.line(0, wave, 1);
        readingAt(x, seen);
        return x.misprint(0, 0);
    }

    static void promise32NeighbouringFiguresOnly() {
        due("the first two", misprinted(2345, 3245), 0);
        due("the second and third", misprinted(2345, 2435), 0);
        due("the last two", misprinted(2350, 2305), 0);
        due("the first and third", misprinted(2345, 4325), -1);
        due("the second and fourth", misprinted(2345, 2540), -1);
        due("the first and fourth", misprinted(2340, 4320), -1);
        due("two changes at once", misprinted(2340, 3205), -1);
        due("figures that are alike", misprinted(2200, 2205), -1);
        due("that it is right is no misprint", misprinted(2345, 2345), -1);
    }

    static void promise32AChangedWaveMayBeginWith0() {
        RainbowPlate x = new RainbowPlate();
        x.error(0);
        x.known(112, false, 1008, false);
        x.known(500, false, 4500, false);
        x.known(900, false, 8100, false);
        x.plate(9, 5, 1000, 9999, 0);
        x.element(false);
        x.line(0, 1080, 1);
        x.reading(0, 20, false, 1, 1);
        due("1080 is 180", x.misprint(0, 0), 0);
    }

    static void promise32NoneAtAll() {
        RainbowPlate x = Make.bright();
        due("no line and no reading", x.misprint(0, 0), -1);
        x.line(0, 2345, 1);
        due("no reading", x.misprint(0, 0), -1);
        RainbowPlate y = Make.bright();
        readingAt(y, 2435);
        due("no line", y.misprint(0, 0), -1);
        RainbowPlate z = Make.lawless();
        z.line(0, 2345, 1);
        readingAt(z, 2435);
        due("no span", z.misprint(0, 0), -1);
    }

    static void promise32ALineThatMustBeSeenOnly() {
        RainbowPlate x = Make.exact();
        x.plate(5, 2, 2345, 2345, 0);
        x.plate(5, 2, 2346, 9999, 0);
        x.plate(5, 2, 1000, 2344, 0);
        x.element(false);
        x.line(0, 2345, 3);
        for (int plate = 0; plate < 3; plate++) {
            x.reading(plate, (2435 - 1000) / 5, false, 1, 1);
        }
        due("on its one wave", x.misprint(0, 0), 0);
        due("ahead of the plate", x.misprint(1, 0), -1);
        due("behind the plate", x.misprint(2, 0), -1);
        RainbowPlate y = Make.exact();
        y.plate(5, 2, 2345, 2345, 0);
        y.element(false);
        y.line(0, 2345, 2);
        readingAt(y, 2435);
        due("too faint", y.misprint(0, 0), -1);
    }

    static void promise32ReadingsThatAreLeftOnly() {
        RainbowPlate x = Make.bright();
        x.element(true);
        x.line(0, 2345, 1);
        readingAt(x, 2435);
        due("left", x.misprint(0, 0), 0);
        x.line(0, 2435, 1);
        due("a line of its own lies in it", x.misprint(0, 0), -1);
        RainbowPlate y = Make.bright();
        y.element(true);
        y.element(false);
        y.line(0, 2345, 1);
        y.line(2, 2435, 1);
        readingAt(y, 2435);
        due("a line of another element", y.misprint(0, 0), 0);
        y.line(1, 2435, 1);
        due("a line of air", y.misprint(0, 0), -1);
    }

    static void promise32TheLastLineAndTheLastReading() {
        RainbowPlate x = Make.bright();
        for (int n = 0; n < 5; n++) {
            x.line(0, 5670, 1);
        }
        x.line(0, 2345, 1);
        for (int n = 0; n < 23; n++) {
            readingAt(x, 5000);
        }
        due("none yet", x.misprint(0, 0), -1);
        readingAt(x, 2435);
        due("32 times 5 and 23", x.misprint(0, 0), 32 * 5 + 23);
    }

    static void promise32SixLinesOfOneAreNotTheNexts() {
        RainbowPlate x = Make.bright();
        x.element(false);
        for (int n = 0; n < 6; n++) {
            x.line(0, 5670, 1);
        }
        x.line(1, 2345, 1);
        readingAt(x, 2435);
        due("of element 0", x.misprint(0, 0), -1);
        due("of element 1", x.misprint(0, 1), 0);
    }

    static void promise32TheFirstLineThenTheFirstReading() {
        RainbowPlate x = Make.bright();
        x.line(0, 5555, 1);
        x.line(0, 2345, 1);
        x.line(0, 3450, 1);
        readingAt(x, 4000);
        readingAt(x, 4350);
        readingAt(x, 3245);
        readingAt(x, 2435);
        due("line 1 and reading 2, though line 2 has reading 1", x.misprint(0, 0), 32 + 2);
    }

    static void promise32ReadingsOfAnotherPlate() {
        RainbowPlate x = Make.bright();
        x.plate(9, 5, 1000, 9999, 0);
        x.line(0, 2345, 1);
        x.reading(1, (2435 - 1000) / 5, false, 1, 1);
        due("on plate 0", x.misprint(0, 0), -1);
        due("on plate 1", x.misprint(1, 0), 0);
        x.reading(1, (2345 - 1000) / 5, false, 1, 1);
        readingAt(x, 2435);
        due("seen on plate 1", x.misprint(1, 0), -1);
        due("but not on plate 0", x.misprint(0, 0), 2);
    }

    static void promise33PlatesThatAreThere() {
        for (int plate : Checks.outside(0, 1)) {
            refused("first " + plate, INDEX, y -> y.alike(plate, 0));
            refused("second " + plate, INDEX, y -> y.alike(0, plate));
        }
        refusedByFresh("without any", INDEX, y -> y.alike(0, 0));
    }

    static void promise33NoReadings() {
        RainbowPlate x = Make.faint();
        x.plate(1, 1, 1000, 9999, 0);
        due("neither has", x.alike(0, 1), 0);
        x.reading(0, 200, false, 1, 1);
        due("the second has none", x.alike(0, 1), 0);
        due("the first has none", x.alike(1, 0), 0);
        due("with itself", x.alike(0, 0), 1);
    }

    static void promise33OneNumberInCommonIsEnough() {
        RainbowPlate x = new RainbowPlate();
        x.error(5);
        for (int n = 0; n < 9; n++) {
            // one law alone holds where known lines are off by the whole error to both sides
            x.known(100 + 100 * n, false, 1500 + 500 * n + (n % 2 == 0 ? 5 : -5), false);
        }
        x.known(50, false, 1245, false);
        due("one law", x.laws(), 1);
        x.plate(1, 1, 1000, 9999, 0);
        x.plate(1, 1, 1000, 9999, 0);
        // 10 wide and 5 for each tick: two ticks have one number in common, three have none
        x.reading(0, 500, false, 1, 1);
        int[] places = {497, 498, 502, 503};
        for (int n = 0; n < places.length; n++) {
            int want = n == 1 || n == 2 ? 1 : 0;
            x.reading(1, places[n], false, 1, 1);
            due("the first by " + places[n], x.alike(0, 1), want);
            due("the second by " + places[n], x.alike(1, 0), 2 * want);
            x.away();
        }
    }

    static void promise33WithoutSpans() {
        RainbowPlate x = Make.lawless();
        x.reading(0, 200, false, 1, 1);
        due("with itself", x.alike(0, 0), 0);
    }

    static void promise33ReadingsOfTheFirstOnly() {
        RainbowPlate x = new RainbowPlate();
        for (int n = 0; n < 3; n++) {
            x.plate(1, 1, 1000, 9999, 0);
            x.reading(n, 100 * n, false, 1, 1);
        }
        // all laws hold, so that all spans have numbers in common
        due("0 by 1", x.alike(0, 1), 1);
        due("1 by 2", x.alike(1, 2), 2);
        due("2 by 0", x.alike(2, 0), 4);
        due("1 by itself", x.alike(1, 1), 2);
    }

    static void promise33TheLastReading() {
        RainbowPlate x = Make.faint();
        x.plate(1, 1, 1000, 9999, 0);
        x.reading(1, 23, false, 1, 1);
        for (int n = 1; n < 24; n++) {
            x.reading(0, n, false, 1, 1);
        }
        due("reading 23", x.alike(0, 1), 1 << 23);
        due("all of the first", x.alike(0, 0), (1 << 24) - 2);
    }

    private static void dueStars(String what, RainbowPlate x, int first, int second, int... want) {
        for (int n = 0; n < 3; n++) {
            due(what + ": " + n, x.stars(0, first, second, n), want[n]);
        }
    }

    static void promise34PlatesThatAreThere() {
        for (int plate : Checks.outside(0, 1)) {
            refused("plate " + plate, INDEX, y -> y.stars(plate, 0, 0, 0));
            refused("no plate ahead of no what " + plate, INDEX, y -> y.stars(plate, 0, 0, 3));
        }
        refusedByFresh("without any", INDEX, y -> y.stars(0, 0, 0, 0));
    }

    static void promise34WhatFrom0To2() {
        for (int what : Checks.outside(0, 2)) {
            refused("what " + what, NO_SUCH, y -> y.stars(0, 0, 0, what));
        }
    }

    static void promise34AllPairs() {
        dueStars("nothing to explain", Make.bright(), 1, 1, 101 * 101, -50, -50);
    }

    static void promise34WithoutAny() {
        RainbowPlate x = Make.bright();
        x.line(0, 2000, 9);
        dueStars("missed", x, 1, 0, 0, 99, 99);
        dueStars("missed by the second", x, 0, 1, 0, 99, 99);
        RainbowPlate y = Make.bright();
        y.reading(0, 200, false, 1, 1);
        dueStars("left", y, 1, 1, 0, 99, 99);
    }

    static void promise34TheFirstAndTheLastSpeeds() {
        RainbowPlate x = Make.bright();
        x.element(false);
        x.line(0, 2000, 9);
        x.line(1, 4000, 9);
        x.reading(0, 180, false, 1, 1);
        x.reading(0, 640, false, 1, 1);
        // 1900 is 2000 at -50, 4200 is 4000 at 50
        dueStars("-50 and 50", x, 1, 2, 1, -50, 50);
        dueStars("50 and -50", x, 2, 1, 1, 50, -50);
        RainbowPlate y = Make.bright();
        y.line(0, 2000, 9);
        y.reading(0, 221, false, 1, 1);
        dueStars("2105 is beyond", y, 1, 0, 0, 99, 99);
    }

    static void promise34InOrderByTheFirstThenTheSecond() {
        RainbowPlate x = Make.bright();
        x.line(0, 2000, 9);
        x.reading(0, 220, false, 1, 1);
        x.reading(0, 180, false, 1, 1);
        dueStars("-50 with 50 ahead of 50 with -50", x, 1, 1, 2, -50, 50);
    }

    static void promise34BothSpeedsMayBeTheSame() {
        RainbowPlate x = Make.bright();
        x.line(0, 2000, 9);
        x.reading(0, 220, false, 1, 1);
        dueStars("50 and 50", x, 1, 1, 1, 50, 50);
    }

    static void promise34AirMustBeSeenOnce() {
        RainbowPlate x = Make.bright();
        x.element(true);
        x.line(1, 3000, 9);
        dueStars("air is missed", x, 0, 0, 0, 99, 99);
        x.reading(0, 400, false, 1, 1);
        dueStars("air is seen at all speeds", x, 0, 0, 101 * 101, -50, -50);
        dueStars("also told as of the sets", x, 2, 2, 101 * 101, -50, -50);
        dueStars("bits of none", x, -4, -4, 101 * 101, -50, -50);
    }

    static void promise34AGhostNeedsNoLine() {
        RainbowPlate x = Make.exact();
        x.plate(9, 5, 1000, 9999, 10);
        x.element(false);
        x.line(0, 2000, 9);
        x.reading(0, 200, false, 7, 1);
        x.reading(0, 211, false, 1, 1);
        dueStars("a ghost", x, 1, 0, 101, 0, -50);
        x.reading(0, 212, false, 1, 1);
        dueStars("none", x, 1, 0, 0, 99, 99);
    }

    static void promise35PlatesThatAreThere() {
        for (int plate : Checks.outside(0, 1)) {
            refused("how many, plate " + plate, INDEX, y -> y.drift(plate, 0, false));
            refused("nearest, plate " + plate, INDEX, y -> y.drift(plate, 0, true));
        }
        refusedByFresh("without any", INDEX, y -> y.drift(0, 0, false));
    }

    private static void dueDrift(String what, RainbowPlate x, int many, int nearest) {
        due(what + ": how many", x.drift(0, 1, false), many);
        due(what + ": nearest", x.drift(0, 1, true), nearest);
    }

    /** A reading at 200 and lines as many ticks from it. */
    private static RainbowPlate drifting(int... ticks) {
        RainbowPlate x = Make.faint();
        x.reading(0, 200, false, 1, 1);
        for (int n : ticks) {
            x.line(0, 2000 + 5 * n, 1);
        }
        return x;
    }

    static void promise35AllOfThem() {
        dueDrift("nothing to explain", Make.bright(), 61, 0);
    }

    static void promise35Without() {
        dueDrift("no line", drifting(), 0, 99);
        RainbowPlate x = Make.bright();
        x.line(0, 2000, 1);
        dueDrift("a line that is missed", x, 0, 99);
        RainbowPlate y = Make.lawless();
        y.reading(0, 200, false, 1, 1);
        dueDrift("no span", y, 0, 99);
    }

    static void promise35FromMinus30To30() {
        dueDrift("-30", drifting(-30), 1, -30);
        dueDrift("30", drifting(30), 1, 30);
        dueDrift("-31", drifting(-31), 0, 99);
        dueDrift("31", drifting(31), 0, 99);
        dueDrift("0", drifting(0), 1, 0);
    }

    static void promise35OfTwoTheLowerOne() {
        dueDrift("-30 and 30", drifting(30, -30), 2, -30);
        dueDrift("-1 and 1", drifting(1, -1), 2, -1);
    }

    static void promise35ThatNearestTo0() {
        dueDrift("-2 and 1", drifting(-2, 1), 2, 1);
        dueDrift("-30 and 29", drifting(-30, 29), 2, 29);
        dueDrift("0 and -1", drifting(-1, 0), 2, 0);
    }

    static void promise35BeyondTheEndsOfThePlaces() {
        RainbowPlate x = Make.faint();
        x.reading(0, 0, false, 1, 1);
        x.line(0, 1150, 1);
        dueDrift("30 above 0", x, 1, 30);
        RainbowPlate y = new RainbowPlate();
        y.error(0);
        y.screw(2, 9, 1, 9);
        y.plate(1, 1, 1000, 9999, 0);
        y.element(false);
        // true places -9, 91, 491 and 989: the wave is 2000 and 5 for each tick, by one law alone
        y.known(0, false, 1955, false);
        y.known(100, false, 2455, false);
        y.known(500, false, 4455, false);
        y.known(998, false, 6945, false);
        due("one law", y.laws(), 1);
        y.reading(0, 0, false, 1, 1);
        y.line(0, 2000 - 5 * 39, 1);
        dueDrift("30 below -9", y, 1, -30);
        y.away();
        y.reading(0, 999, true, 1, 1);
        y.line(0, 2000 + 5 * 1047, 1);
        dueDrift("30 above 1017", y, 1, 30);
    }

    static void promise35AllReadingsOfThePlateDriftAlike() {
        RainbowPlate x = drifting(2, 100);
        x.reading(0, 298, false, 1, 1);
        dueDrift("2 and 2", x, 1, 2);
        x.reading(0, 299, false, 1, 1);
        dueDrift("and 1", x, 0, 99);
    }

    static void promise35LinesThatMustBeSeenStay() {
        RainbowPlate x = Make.bright();
        x.line(0, 2000, 1);
        x.line(0, 3000, 1);
        x.reading(0, 203, false, 1, 1);
        dueDrift("one of two is missed", x, 0, 99);
        x.reading(0, 403, false, 1, 1);
        dueDrift("both", x, 1, -3);
    }
}
