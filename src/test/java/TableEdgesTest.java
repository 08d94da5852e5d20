/** Promises 15 to 22: each sentence that names a boundary, in a method of its own named by its promise. */
public final class TableEdgesTest extends Edges {
    public static void main(String[] args) throws Exception {
        Checks.runPromises(TableEdgesTest.class, 15, 22);
    }

    static void promise15ThereIsRoomFor6() {
        RainbowPlate x = new RainbowPlate();
        for (int n = 0; n < 6; n++) {
            due("element " + n, x.element(n % 2 == 1), n);
        }
        refusedByFull("a 7th", FULL, y -> y.element(false));
        refusedByFull("a 7th of air", FULL, y -> y.element(true));
    }

    static void promise15MoreThanOneOfThemMayBeAir() {
        RainbowPlate x = new RainbowPlate();
        for (int n = 0; n < 6; n++) {
            x.element(true);
            x.line(n, 5000, 1);
            due("air " + n + " is not shifted", x.lies(n, 0, 50), 5000);
        }
    }

    static void promise15ANewOneHasNoLines() {
        RainbowPlate x = new RainbowPlate();
        x.image();
        x.element(true);
        x.line(0, 5000, 1);
        x.back();
        x.element(false);
        due("after the way back", x.count(3), 0);
        thrown("line 0", INDEX, () -> x.lies(0, 0, 0));
        due("its first line", x.line(0, 6000, 2), 0);
        due("it is not air", x.lies(0, 0, 50), 6300);
    }

    static void promise16ElementsThatAreThere() {
        for (int element : Checks.outside(0, 2)) {
            refused("element " + element, INDEX, y -> y.line(element, 5000, 5));
        }
        refusedByFresh("without any", INDEX, y -> y.line(0, 5000, 5));
        refusedByFull("element 6", INDEX, y -> y.line(6, 5000, 5));
        due("the last", Make.rich().line(2, 5000, 5), 1);
    }

    static void promise16WaveFrom1000To9999() {
        RainbowPlate x = new RainbowPlate();
        x.element(false);
        due("1000", x.line(0, 1000, 5), 0);
        due("9999", x.line(0, 9999, 5), 1);
        due("lies at 1000", x.lies(0, 0, 0), 1000);
        due("lies at 9999", x.lies(0, 1, 0), 9999);
        for (int wave : Checks.outside(1000, 9999)) {
            refused("wave " + wave, ILLEGAL, y -> y.line(0, wave, 5));
        }
    }

    static void promise16StrengthFrom1To9() {
        RainbowPlate x = new RainbowPlate();
        x.element(false);
        due("1", x.line(0, 5000, 1), 0);
        due("9", x.line(0, 5000, 9), 1);
        for (int strength : Checks.outside(1, 9)) {
            refused("strength " + strength, ILLEGAL, y -> y.line(0, 5000, strength));
        }
    }

    static void promise16ThereIsRoomFor6OfEach() {
        RainbowPlate x = new RainbowPlate();
        for (int e = 0; e < 6; e++) {
            x.element(false);
        }
        for (int e = 5; e >= 0; e--) {
            for (int l = 0; l < 6; l++) {
                due("line " + l + " of " + e, x.line(e, 1000 + 10 * e + l, 1), l);
            }
            int element = e;
            thrown("a 7th of " + e, FULL, () -> x.line(element, 5000, 1));
        }
        due("36 in all", x.count(3), 36);
        for (int e = 0; e < 6; e++) {
            due("the first of " + e, x.lies(e, 0, 0), 1000 + 10 * e);
            due("the last of " + e, x.lies(e, 5, 0), 1005 + 10 * e);
            int element = e;
            refusedByFull("a 7th of " + e, FULL, y -> y.line(element, 5000, 5));
        }
    }

    static void promise16OfSeveralExceptionsTheFirst() {
        refused("no element, no wave", INDEX, y -> y.line(3, 999, 5));
        refused("no element, no strength", INDEX, y -> y.line(-1, 5000, 0));
        refusedByFull("no element ahead of no room", INDEX, y -> y.line(6, 5000, 5));
        refusedByFull("no wave ahead of no room", ILLEGAL, y -> y.line(0, 10000, 5));
        refusedByFull("no strength ahead of no room", ILLEGAL, y -> y.line(5, 5000, 10));
        refusedByFull("all three", INDEX, y -> y.line(6, 999, 0));
    }

    static void promise17TimeFrom1To9() {
        RainbowPlate x = new RainbowPlate();
        due("1", x.plate(1, 1, 1000, 1000, 0), 0);
        due("9", x.plate(9, 1, 1000, 1000, 0), 1);
        for (int time : Checks.outside(1, 9)) {
            refused("time " + time, ILLEGAL, y -> y.plate(time, 1, 1000, 1000, 0));
        }
    }

    static void promise17SlitFrom1To5() {
        RainbowPlate x = new RainbowPlate();
        due("1", x.plate(1, 1, 1000, 1000, 0), 0);
        due("5", x.plate(1, 5, 1000, 1000, 0), 1);
        for (int slit : Checks.outside(1, 5)) {
            refused("slit " + slit, ILLEGAL, y -> y.plate(1, slit, 1000, 1000, 0));
        }
    }

    static void promise17WavesFrom1000To9999() {
        RainbowPlate x = new RainbowPlate();
        due("1000 to 9999", x.plate(1, 1, 1000, 9999, 0), 0);
        due("9999 to 9999", x.plate(1, 1, 9999, 9999, 0), 1);
        due("1000 to 1000", x.plate(1, 1, 1000, 1000, 0), 2);
        for (int wave : Checks.outside(1000, 9999)) {
            refused("from " + wave, ILLEGAL, y -> y.plate(1, 1, wave, 9999, 0));
            refused("to " + wave, ILLEGAL, y -> y.plate(1, 1, 1000, wave, 0));
            refused("from and to " + wave, ILLEGAL, y -> y.plate(1, 1, wave, wave, 0));
        }
    }

    static void promise17TheSecondNotBelowTheFirst() {
        due("the same", new RainbowPlate().plate(1, 1, 5000, 5000, 0), 0);
        due("1 above", new RainbowPlate().plate(1, 1, 5000, 5001, 0), 0);
        refused("1 below", ILLEGAL, y -> y.plate(1, 1, 5000, 4999, 0));
        refused("far below", ILLEGAL, y -> y.plate(1, 1, 9999, 1000, 0));
    }

    static void promise17GhostFrom0To500() {
        RainbowPlate x = new RainbowPlate();
        due("0", x.plate(1, 1, 1000, 1000, 0), 0);
        due("500", x.plate(1, 1, 1000, 1000, 500), 1);
        for (int ghost : Checks.outside(0, 500)) {
            refused("ghost " + ghost, ILLEGAL, y -> y.plate(1, 1, 1000, 1000, ghost));
        }
    }

    static void promise17ThereIsRoomFor3() {
        RainbowPlate x = new RainbowPlate();
        for (int n = 0; n < 3; n++) {
            due("plate " + n, x.plate(1, 1, 1000, 1000, 0), n);
        }
        refusedByFull("a 4th", FULL, y -> y.plate(1, 1, 1000, 1000, 0));
    }

    static void promise17ANumberThatIsNoneIsToldAheadOfNoRoom() {
        refusedByFull("time", ILLEGAL, y -> y.plate(0, 1, 1000, 1000, 0));
        refusedByFull("slit", ILLEGAL, y -> y.plate(1, 6, 1000, 1000, 0));
        refusedByFull("from", ILLEGAL, y -> y.plate(1, 1, 999, 1000, 0));
        refusedByFull("to", ILLEGAL, y -> y.plate(1, 1, 1000, 10000, 0));
        refusedByFull("order", ILLEGAL, y -> y.plate(1, 1, 1001, 1000, 0));
        refusedByFull("ghost", ILLEGAL, y -> y.plate(1, 1, 1000, 1000, 501));
    }

    static void promise18PlatesThatAreThere() {
        for (int plate : Checks.outside(0, 1)) {
            refused("plate " + plate, INDEX, y -> y.reading(plate, 0, false, 1, 1));
        }
        refusedByFresh("without any", INDEX, y -> y.reading(0, 0, false, 1, 1));
        due("the last", Make.rich().reading(1, 0, false, 1, 1), 3);
    }

    static void promise18PlaceFrom0To999() {
        RainbowPlate x = Make.faint();
        due("0", x.reading(0, 0, false, 1, 1), 0);
        due("999", x.reading(0, 999, true, 1, 1), 1);
        for (int place : Checks.outside(0, 999)) {
            refused("place " + place, ILLEGAL, y -> y.reading(0, place, false, 1, 1));
        }
    }

    static void promise18StrengthFrom1To9() {
        RainbowPlate x = Make.faint();
        due("1", x.reading(0, 0, false, 1, 5), 0);
        due("9", x.reading(0, 0, false, 9, 5), 1);
        for (int strength : Checks.outside(1, 9)) {
            refused("strength " + strength, ILLEGAL, y -> y.reading(0, 0, false, strength, 5));
        }
    }

    static void promise18WidthFrom1To9() {
        RainbowPlate x = Make.faint();
        due("1", x.reading(0, 0, false, 5, 1), 0);
        due("9", x.reading(0, 0, false, 5, 9), 1);
        for (int width : Checks.outside(1, 9)) {
            refused("width " + width, ILLEGAL, y -> y.reading(0, 0, false, 5, width));
        }
    }

    static void promise18ThereIsRoomFor24OfAllPlatesTogether() {
        RainbowPlate x = new RainbowPlate();
        for (int n = 0; n < 3; n++) {
            x.plate(1, 1, 1000, 1000, 0);
        }
        for (int n = 0; n < 24; n++) {
            due("reading " + n, x.reading(n % 3, n, false, 1, 1), n);
        }
        for (int plate = 0; plate < 3; plate++) {
            int on = plate;
            thrown("a 25th on " + on, FULL, () -> x.reading(on, 0, false, 1, 1));
            refusedByFull("a 25th on " + on, FULL, y -> y.reading(on, 0, false, 1, 1));
        }
        due("24 stay", x.count(5), 24);
        x.away();
        due("room for one again", x.reading(0, 0, false, 1, 1), 23);
    }

    static void promise18OfSeveralExceptionsTheFirst() {
        refused("no plate, no place", INDEX, y -> y.reading(2, 1000, false, 1, 1));
        refused("no plate, no strength", INDEX, y -> y.reading(-1, 0, false, 0, 1));
        refused("no plate, no width", INDEX, y -> y.reading(2, 0, false, 1, 10));
        refusedByFull("no plate ahead of no room", INDEX, y -> y.reading(3, 0, false, 1, 1));
        refusedByFull("no place ahead of no room", ILLEGAL, y -> y.reading(0, -1, false, 1, 1));
        refusedByFull("no strength ahead of no room", ILLEGAL, y -> y.reading(0, 0, false, 10, 1));
        refusedByFull("no width ahead of no room", ILLEGAL, y -> y.reading(0, 0, false, 1, 0));
        refusedByFull("all three", INDEX, y -> y.reading(-1, -1, false, 0, 0));
    }

    static void promise19ReadingsThatAreThere() {
        for (int reading : Checks.outside(0, 2)) {
            refused("reading " + reading, INDEX, y -> y.look(reading, 0));
        }
        refusedByFresh("without any", INDEX, y -> y.look(0, 0));
        refusedByFull("reading 24", INDEX, y -> y.look(24, 0));
        due("reading 23 of 24", Make.full().look(23, 0), 2);
        thrown("one that was put away", INDEX, () -> {
            RainbowPlate x = Make.rich();
            x.look(x.away(), 0);
        });
    }

    static void promise19WhatFrom0To8() {
        for (int what : Checks.outside(0, 8)) {
            refused("what " + what, NO_SUCH, y -> y.look(0, what));
            refused("no reading ahead of what " + what, INDEX, y -> y.look(3, what));
        }
        RainbowPlate x = Make.exact();
        x.plate(1, 1, 1000, 1000, 0);
        x.plate(1, 1, 1000, 1000, 0);
        x.reading(1, 300, true, 4, 6);
        int[] due = {1, 300, 1, 4, 6, 300, 2500, 2500, 0};
        for (int what = 0; what <= 8; what++) {
            due("what " + what, x.look(0, what), due[what]);
        }
        x.reading(0, 0, false, 1, 1);
        due("turned up", x.look(1, 2), 0);
    }

    static void promise19WithoutASpan() {
        RainbowPlate x = Make.lawless();
        x.reading(0, 300, false, 4, 6);
        due("least", x.look(0, 6), -99999);
        due("greatest", x.look(0, 7), -99999);
    }

    static void promise19TheSpanIsAtTheTruePlace() {
        RainbowPlate x = Make.faint();
        x.screw(10, 0, 0, 9);
        x.reading(0, 300, true, 1, 1);
        x.reading(0, 300, false, 1, 1);
        due("down", x.look(0, 6), 2545);
        due("up", x.look(1, 6), 2500);
    }

    /** Whether a reading at a place may be a ghost by one at 500 of such a strength. */
    private static int ghostAt(int place, int ghost, int strength) {
        RainbowPlate x = new RainbowPlate();
        x.plate(1, 1, 1000, 1000, ghost);
        x.reading(0, 500, false, strength, 1);
        x.reading(0, place, false, 1, 1);
        return x.look(1, 8);
    }

    static void promise19AGhostTo1TickMoreOrLess() {
        int[] apart = {8, 9, 10, 11, 12};
        int[] want = {0, 1, 1, 1, 0};
        for (int n = 0; n < apart.length; n++) {
            due(apart[n] + " above", ghostAt(500 + apart[n], 10, 9), want[n]);
            due(apart[n] + " below", ghostAt(500 - apart[n], 10, 9), want[n]);
        }
    }

    static void promise19AGhostByAStrengthOf7() {
        due("7", ghostAt(510, 10, 7), 1);
        due("6", ghostAt(510, 10, 6), 0);
        due("9", ghostAt(510, 10, 9), 1);
        due("1", ghostAt(510, 10, 1), 0);
    }

    static void promise19NoGhostsBy0() {
        due("the same place", ghostAt(500, 0, 9), 0);
        due("1 above", ghostAt(501, 0, 9), 0);
        due("1 below", ghostAt(499, 0, 9), 0);
    }

    static void promise19GhostsBy1AndBy500() {
        due("1: the same place", ghostAt(500, 1, 9), 1);
        due("1: 2 above", ghostAt(502, 1, 9), 1);
        due("1: 3 above", ghostAt(503, 1, 9), 0);
        due("500: 499", ghostAt(1, 500, 9), 1);
        due("500: 500", ghostAt(0, 500, 9), 1);
        due("500: 498", ghostAt(998, 500, 9), 0);
        due("500: 499 above", ghostAt(999, 500, 9), 1);
    }

    static void promise19AGhostByAnotherOneOnly() {
        RainbowPlate x = new RainbowPlate();
        x.plate(1, 1, 1000, 1000, 1);
        x.reading(0, 500, false, 9, 1);
        due("0 ticks from itself", x.look(0, 8), 0);
        x.reading(0, 500, false, 9, 1);
        due("0 ticks from another", x.look(0, 8) + x.look(1, 8), 2);
    }

    static void promise19AGhostByItsOwnPlateOnly() {
        RainbowPlate x = new RainbowPlate();
        x.plate(1, 1, 1000, 1000, 10);
        x.plate(1, 1, 1000, 1000, 10);
        x.reading(0, 500, false, 9, 1);
        x.reading(1, 510, false, 9, 1);
        due("neither", x.look(0, 8) + x.look(1, 8), 0);
        due("none in all", x.count(6), 0);
    }

    static void promise19AGhostByPlacesAsRead() {
        RainbowPlate x = new RainbowPlate();
        x.plate(1, 1, 1000, 1000, 10);
        x.screw(20, 9, 0, 9);
        x.reading(0, 500, false, 9, 1);
        x.reading(0, 510, true, 1, 1);
        due("10 as read, 1 by true places", x.look(1, 8), 1);
        x.reading(0, 519, true, 1, 1);
        due("19 as read, 10 by true places", x.look(2, 8), 0);
    }

    static void promise20WithoutOne() {
        RainbowPlate x = Make.faint();
        due("none yet", x.away(), -1);
        x.reading(0, 0, false, 1, 1);
        due("the only one", x.away(), 0);
        due("none any more", x.away(), -1);
        due("and again", x.away(), -1);
        due("how many", x.count(5), 0);
        due("the next one is the first", x.reading(0, 5, false, 1, 1), 0);
    }

    static void promise20TheLatestOfAllPlates() {
        RainbowPlate x = Make.full();
        for (int n = 23; n >= 0; n--) {
            due("away " + n, x.away(), n);
            due("left over", x.count(5), n);
        }
        due("none", x.away(), -1);
    }

    static void promise20WhatIsPutAwayIsNoGhostsCause() {
        RainbowPlate x = new RainbowPlate();
        x.plate(1, 1, 1000, 1000, 10);
        x.reading(0, 510, false, 1, 1);
        x.reading(0, 500, false, 9, 1);
        due("by the latest one", x.look(0, 8), 1);
        x.away();
        due("without it", x.look(0, 8), 0);
    }

    static void promise21SpeedFromMinus50To50() {
        RainbowPlate x = new RainbowPlate();
        x.element(false);
        x.line(0, 9999, 1);
        x.line(0, 1000, 1);
        // 9999 times 1050 is 10498950, times 950 is 9499050
        due("50", x.lies(0, 0, 50), 10498);
        due("-50", x.lies(0, 0, -50), 9499);
        due("50 of 1000", x.lies(0, 1, 50), 1050);
        due("-50 of 1000", x.lies(0, 1, -50), 950);
        for (int speed : Checks.outside(-50, 50)) {
            refused("speed " + speed, ILLEGAL, y -> y.lies(0, 0, speed));
            refused("speed " + speed + " of air", ILLEGAL, y -> y.lies(1, 0, speed));
        }
    }

    static void promise21RoundedDown() {
        RainbowPlate x = new RainbowPlate();
        x.element(false);
        x.line(0, 1001, 1);
        // 1001 times 999 is 999999, times 1001 is 1002001
        due("-1", x.lies(0, 0, -1), 999);
        due("0", x.lies(0, 0, 0), 1001);
        due("1", x.lies(0, 0, 1), 1002);
    }

    static void promise21AirIsNotShifted() {
        RainbowPlate x = new RainbowPlate();
        x.element(true);
        x.line(0, 5000, 1);
        due("50", x.lies(0, 0, 50), 5000);
        due("-50", x.lies(0, 0, -50), 5000);
    }

    static void promise21ElementsAndLinesThatAreThere() {
        for (int n : Checks.outside(0, 2)) {
            refused("element " + n, INDEX, y -> y.lies(n, 0, 0));
        }
        for (int n : Checks.outside(0, 1)) {
            refused("line " + n, INDEX, y -> y.lies(0, n, 0));
        }
        refused("line 1 of an element with one", INDEX, y -> y.lies(1, 1, 0));
        refusedByFull("line 6 of six", INDEX, y -> y.lies(0, 6, 0));
        due("line 5 of six", Make.full().lies(5, 5, 0), 1500 + 500 + 3500);
        Checks.refused("an element without lines", INDEX, Make::bright, y -> y.lies(0, 0, 0));
    }

    static void promise21OfSeveralExceptionsTheFirst() {
        refused("no element, no speed", INDEX, y -> y.lies(3, 0, 51));
        refused("no line, no speed", INDEX, y -> y.lies(0, 2, -51));
    }

    /** Whether line 0 of such a wave and strength must be seen on such a plate from 2000 to 3000. */
    private static boolean must(int wave, int strength, int time, int slit) {
        RainbowPlate x = new RainbowPlate();
        x.element(false);
        x.line(0, wave, strength);
        x.plate(time, slit, 2000, 3000, 0);
        return x.must(0, 0, 0);
    }

    static void promise22FromOneWaveToTheOther() {
        due("1999", must(1999, 9, 9, 5), false);
        due("2000", must(2000, 9, 9, 5), true);
        due("3000", must(3000, 9, 9, 5), true);
        due("3001", must(3001, 9, 9, 5), false);
    }

    static void promise22AtLeast30() {
        due("5 6 1", must(2500, 5, 6, 1), true);
        due("1 6 5", must(2500, 1, 6, 5), true);
        due("7 4 1", must(2500, 7, 4, 1), false);
        due("4 7 1", must(2500, 4, 7, 1), false);
        due("7 1 4", must(2500, 7, 1, 4), false);
        due("3 5 2", must(2500, 3, 5, 2), true);
        due("3 3 3", must(2500, 3, 3, 3), false);
        due("1 1 1", must(2500, 1, 1, 1), false);
        due("9 9 5", must(2500, 9, 9, 5), true);
    }

    static void promise22WhatIsNotThere() {
        for (int n : Checks.outside(0, 1)) {
            refused("plate " + n, INDEX, y -> y.must(n, 0, 0));
            refused("line " + n, INDEX, y -> y.must(0, 0, n));
        }
        for (int n : Checks.outside(0, 2)) {
            refused("element " + n, INDEX, y -> y.must(0, n, 0));
        }
        refused("line 1 of an element with one", INDEX, y -> y.must(0, 1, 1));
        refusedByFull("line 6 of six", INDEX, y -> y.must(0, 0, 6));
        refusedByFull("plate 3 of three", INDEX, y -> y.must(3, 0, 0));
        refusedByFresh("without anything", INDEX, y -> y.must(0, 0, 0));
    }

    static void promise22AtSpeed0AndOfAirToo() {
        RainbowPlate x = new RainbowPlate();
        x.element(true);
        x.line(0, 2000, 6);
        x.plate(5, 1, 2000, 2000, 0);
        due("air", x.must(0, 0, 0), true);
    }
}
