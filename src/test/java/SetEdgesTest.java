/** Promises 23 to 29: each sentence that names a boundary, in a method of its own named by its promise. */
public final class SetEdgesTest extends Edges {
    public static void main(String[] args) throws Exception {
        Checks.runPromises(SetEdgesTest.class, 23, 29);
    }

    /** Known lines at both ends and between, so that few laws hold and spans are some waves wide. */
    private static RainbowPlate wideSpans(int time) {
        RainbowPlate x = new RainbowPlate();
        x.known(0, false, 1000, false);
        x.known(250, false, 2250, false);
        x.known(500, false, 3500, false);
        x.known(750, false, 4750, false);
        x.known(999, false, 5995, false);
        x.plate(time, 5, 1000, 9999, 0);
        x.element(false);
        x.reading(0, 400, false, 5, 1);
        return x;
    }

    static void promise23SpeedFromMinus50To50() {
        due("50", Make.bright().explains(0, 0, 50), true);
        due("-50", Make.bright().explains(0, 0, -50), true);
        for (int speed : Checks.outside(-50, 50)) {
            refused("speed " + speed, ILLEGAL, y -> y.explains(0, 0, speed));
        }
    }

    static void promise23PlatesThatAreThere() {
        for (int plate : Checks.outside(0, 1)) {
            refused("plate " + plate, INDEX, y -> y.explains(plate, 0, 0));
            refused("no plate ahead of no speed " + plate, INDEX, y -> y.explains(plate, 0, 51));
        }
        refusedByFresh("without any", INDEX, y -> y.explains(0, 0, 0));
        refusedByFull("plate 3 of three", INDEX, y -> y.explains(3, 0, 0));
    }

    static void promise23NoReadingsAndNoLines() {
        RainbowPlate x = Make.bright();
        due("the empty set", x.explains(0, 0, 0), true);
        due("an element without lines", x.explains(0, 1, 0), true);
        due("without a law", Make.lawless().explains(0, 1, 0), true);
    }

    static void promise23AReadingWithoutLines() {
        RainbowPlate x = Make.bright();
        x.reading(0, 200, false, 1, 1);
        due("the empty set", x.explains(0, 0, 0), false);
        due("an element without lines", x.explains(0, 1, 0), false);
    }

    static void promise23ALineThatMustBeSeenWithoutReadings() {
        RainbowPlate x = Make.bright();
        x.line(0, 2000, 1);
        due("must", x.explains(0, 1, 0), false);
        due("of no set", x.explains(0, 0, 0), true);
        RainbowPlate y = Make.faint();
        y.line(0, 2000, 9);
        due("need not", y.explains(0, 1, 0), true);
    }

    static void promise23InTheSpanFromItsLeastToItsGreatest() {
        RainbowPlate probe = wideSpans(1);
        int least = probe.look(0, 6);
        int greatest = probe.look(0, 7);
        due("the span is more than one wave", greatest > least + 2, true);
        int[] waves = {least - 1, least, least + 1, greatest - 1, greatest, greatest + 1};
        for (int n = 0; n < waves.length; n++) {
            RainbowPlate x = wideSpans(1);
            x.line(0, waves[n], 1);
            boolean inside = n > 0 && n < 5;
            due("the reading by " + waves[n], x.explains(0, 1, 0), inside);
            due("is left by " + waves[n], x.left(0, 1, 0), inside ? 0 : 1);
            RainbowPlate y = wideSpans(9);
            y.line(0, least + 1, 9);
            y.line(0, waves[n], 9);
            due("a line that must be seen at " + waves[n], y.explains(0, 1, 0), inside);
            due("is missed at " + waves[n], y.missed(0, 1, 0), inside ? 0 : 1);
        }
    }

    static void promise23AReadingWithoutASpan() {
        RainbowPlate x = Make.lawless();
        x.reading(0, 200, false, 1, 1);
        x.line(0, 2000, 1);
        due("nothing lies in it", x.explains(0, 1, 0), false);
        RainbowPlate ghosts = Make.lawless();
        ghosts.plate(1, 1, 1000, 9999, 10);
        ghosts.reading(1, 200, false, 9, 1);
        ghosts.reading(1, 210, false, 9, 1);
        due("but ghosts need none", ghosts.explains(1, 0, 0), true);
    }

    static void promise23AGhostNeedsNoLine() {
        RainbowPlate x = Make.exact();
        x.plate(1, 1, 1000, 9999, 10);
        x.element(false);
        x.line(0, 2000, 1);
        x.reading(0, 200, false, 7, 1);
        x.reading(0, 211, false, 1, 1);
        due("11 ticks from a 7", x.explains(0, 1, 0), true);
        x.reading(0, 212, false, 1, 1);
        due("12 ticks from it", x.explains(0, 1, 0), false);
    }

    static void promise23AirIsInEachSet() {
        RainbowPlate x = Make.bright();
        x.element(true);
        x.line(1, 2000, 1);
        due("air that is missed, by the empty set", x.explains(0, 0, 0), false);
        x.reading(0, 200, false, 1, 1);
        due("air that is seen, by the empty set", x.explains(0, 0, 0), true);
        due("by its own bit", x.explains(0, 2, 0), true);
        due("it is not shifted", x.explains(0, 0, 50), true);
    }

    static void promise23BitsOfSetsOfNoneCountForNothing() {
        RainbowPlate x = Make.bright();
        x.line(0, 2000, 1);
        x.reading(0, 200, false, 1, 1);
        due("bit 0 alone", x.explains(0, 1, 0), true);
        due("all bits", x.explains(0, -1, 0), true);
        due("all but bit 0", x.explains(0, -2, 0), false);
        due("the highest bit", x.explains(0, Integer.MIN_VALUE, 0), false);
        due("bit 1, of no element", x.explains(0, 2, 0), false);
        due("bit 0 and bit 6", x.explains(0, 65, 0), true);
        due("bit 6, of which there can be none", x.explains(0, 64, 0), false);
    }

    static void promise23ALineMustBeSeenWhereItIsShiftedTo() {
        RainbowPlate x = Make.exact();
        x.plate(9, 5, 2100, 9999, 0);
        x.element(false);
        x.line(0, 2000, 9);
        // 2098 at 49 and 2100 at 50
        due("ahead of the plate", x.explains(0, 1, 49), true);
        due("on it", x.explains(0, 1, 50), false);
        RainbowPlate y = Make.exact();
        y.plate(9, 5, 1000, 1900, 0);
        y.element(false);
        y.line(0, 2000, 9);
        due("behind the plate", y.explains(0, 1, -49), true);
        due("on its last wave", y.explains(0, 1, -50), false);
    }

    static void promise23ReadingsOfItsOwnPlateOnly() {
        RainbowPlate x = Make.bright();
        x.plate(9, 5, 1000, 9999, 0);
        x.line(0, 2000, 9);
        x.reading(1, 200, false, 1, 1);
        due("seen on the other plate", x.explains(0, 1, 0), false);
        due("on this one", x.explains(1, 1, 0), true);
        due("its reading is nothing to the other", x.explains(0, 0, 0), true);
    }

    static void promise24PlatesThatAreThere() {
        for (int plate : Checks.outside(0, 1)) {
            refused("plate " + plate, INDEX, y -> y.sets(plate, 0));
            refused("no plate ahead of no what " + plate, INDEX, y -> y.sets(plate, 4));
        }
        refusedByFresh("without any", INDEX, y -> y.sets(0, 0));
    }

    static void promise24WhatFrom0To3() {
        for (int what : Checks.outside(0, 3)) {
            refused("what " + what, NO_SUCH, y -> y.sets(0, what));
        }
    }

    private static void dueSets(String what, RainbowPlate x, int many, int fewest, int sure, int may) {
        due(what + ": how many", x.sets(0, 0), many);
        due(what + ": the fewest", x.sets(0, 1), fewest);
        due(what + ": sure", x.sets(0, 2), sure);
        due(what + ": may", x.sets(0, 3), may);
    }

    static void promise24WithoutElements() {
        RainbowPlate x = Make.exact();
        x.plate(9, 5, 1000, 9999, 0);
        dueSets("nothing to explain", x, 1, 0, 0, 0);
        x.reading(0, 200, false, 1, 1);
        dueSets("a reading", x, 0, -1, 0, 0);
    }

    static void promise24WithoutAnySet() {
        RainbowPlate x = Make.bright();
        x.reading(0, 200, false, 1, 1);
        dueSets("a reading of no line", x, 0, -1, 0, 0);
    }

    static void promise24AllSetsOfSix() {
        RainbowPlate x = Make.bright();
        for (int n = 1; n < 6; n++) {
            x.element(false);
        }
        dueSets("nothing to explain", x, 64, 0, 0, 63);
        for (int n = 0; n < 6; n++) {
            x.line(n, 2000 + 100 * n, 1);
            x.reading(0, 200 + 20 * n, false, 1, 1);
        }
        dueSets("all are needed", x, 1, 63, 63, 63);
    }

    static void promise24SetsAreToldWithoutAir() {
        RainbowPlate x = Make.exact();
        x.plate(9, 5, 1000, 9999, 0);
        for (int n = 0; n < 6; n++) {
            x.element(true);
        }
        dueSets("all air", x, 1, 0, 0, 0);
        x.line(5, 2000, 1);
        dueSets("air that is missed", x, 0, -1, 0, 0);
    }

    static void promise24TheFewestThenTheLeastBits() {
        RainbowPlate x = Make.faint();
        for (int n = 1; n < 4; n++) {
            x.element(false);
        }
        x.line(0, 2000, 1);
        x.line(1, 2100, 1);
        x.reading(0, 200, false, 1, 1);
        x.reading(0, 220, false, 1, 1);
        due("both are needed", x.sets(0, 1), 3);
        x.line(3, 2000, 1);
        x.line(3, 2100, 1);
        due("one alone, of greater bits", x.sets(0, 1), 8);
        x.line(2, 2000, 1);
        x.line(2, 2100, 1);
        due("another alone, of less bits", x.sets(0, 1), 4);
    }

    static void promise24EachTimeAnew() {
        RainbowPlate x = Make.bright();
        x.plate(9, 5, 1000, 9999, 0);
        x.line(0, 2000, 1);
        x.reading(0, 200, false, 1, 1);
        dueSets("one", x, 1, 1, 1, 1);
        x.reading(0, 300, false, 1, 1);
        dueSets("none any more", x, 0, -1, 0, 0);
        x.away();
        dueSets("one again", x, 1, 1, 1, 1);
        due("and of another plate the empty one", x.sets(1, 0) * 10 + x.sets(1, 3), 10);
    }

    static void promise24SixLinesOfOneAreNotTheNexts() {
        RainbowPlate x = Make.bright();
        x.element(false);
        x.reading(0, 200, false, 1, 1);
        for (int n = 0; n < 6; n++) {
            x.line(0, 2000, 1);
        }
        x.line(1, 3000, 1);
        dueSets("element 0 alone", x, 1, 1, 1, 1);
    }

    static void promise25SpeedFromMinus50To50() {
        RainbowPlate x = Make.faint();
        x.line(0, 2000, 1);
        x.reading(0, 220, false, 1, 1);
        x.reading(0, 180, false, 1, 1);
        due("50", x.left(0, 1, 50), 2);
        due("-50", x.left(0, 1, -50), 1);
        for (int speed : Checks.outside(-50, 50)) {
            refused("speed " + speed, ILLEGAL, y -> y.left(0, 0, speed));
        }
    }

    static void promise25PlatesThatAreThere() {
        for (int plate : Checks.outside(0, 1)) {
            refused("plate " + plate, INDEX, y -> y.left(plate, 0, 0));
            refused("no plate ahead of no speed " + plate, INDEX, y -> y.left(plate, 0, 51));
        }
        refusedByFresh("without any", INDEX, y -> y.left(0, 0, 0));
    }

    static void promise25FromNoReadingToTheLast() {
        RainbowPlate x = Make.faint();
        due("no readings", x.left(0, -1, 0), 0);
        for (int n = 0; n < 24; n++) {
            x.reading(0, n, false, 1, 1);
        }
        due("all 24", x.left(0, -1, 0), (1 << 24) - 1);
        x.line(0, 1000, 1);
        due("all but the first", x.left(0, 1, 0), (1 << 24) - 2);
        x.line(0, 1115, 1);
        due("nor the last", x.left(0, 1, 0), (1 << 23) - 2);
    }

    static void promise25ReadingsWithoutASpanAreLeft() {
        RainbowPlate x = Make.lawless();
        x.line(0, 2000, 1);
        x.reading(0, 200, false, 1, 1);
        due("left", x.left(0, 1, 0), 1);
    }

    static void promise25GhostsAreNotLeft() {
        RainbowPlate x = Make.exact();
        x.plate(1, 1, 1000, 9999, 10);
        x.reading(0, 200, false, 7, 1);
        x.reading(0, 211, false, 6, 1);
        x.reading(0, 212, false, 6, 1);
        due("the strong one and what is 12 from it", x.left(0, 0, 0), 1 + 4);
    }

    static void promise25AGhostWhoseCauseIsPutAwayIsLeft() {
        RainbowPlate x = Make.exact();
        x.plate(1, 1, 1000, 9999, 10);
        x.reading(0, 210, false, 1, 1);
        x.reading(0, 200, false, 7, 1);
        due("a ghost", x.left(0, 0, 0), 2);
        x.away();
        due("none any more", x.left(0, 0, 0), 1);
    }

    static void promise26SpeedFromMinus50To50() {
        RainbowPlate x = Make.bright();
        x.line(0, 2000, 1);
        x.reading(0, 220, false, 1, 1);
        due("50", x.missed(0, 1, 50), 0);
        due("49", x.missed(0, 1, 49), 1);
        due("-50", x.missed(0, 1, -50), 1);
        for (int speed : Checks.outside(-50, 50)) {
            refused("speed " + speed, ILLEGAL, y -> y.missed(0, 0, speed));
        }
    }

    static void promise26PlatesThatAreThere() {
        for (int plate : Checks.outside(0, 1)) {
            refused("plate " + plate, INDEX, y -> y.missed(plate, 0, 0));
            refused("no plate ahead of no speed " + plate, INDEX, y -> y.missed(plate, 0, 51));
        }
        refusedByFresh("without any", INDEX, y -> y.missed(0, 0, 0));
    }

    static void promise26FromNoneToAll36() {
        RainbowPlate x = Make.bright();
        due("no lines", x.missed(0, -1, 0), 0);
        for (int e = 0; e < 6; e++) {
            if (e > 0) {
                x.element(e == 3);
            }
            for (int l = 0; l < 6; l++) {
                x.line(e, 2000, 1);
            }
        }
        due("all", x.missed(0, -1, 0), 36);
        due("those of air", x.missed(0, 0, 0), 6);
        x.reading(0, 200, false, 1, 1);
        due("none", x.missed(0, -1, 0), 0);
    }

    static void promise26OnlyLinesThatMustBeSeen() {
        RainbowPlate x = Make.exact();
        x.plate(5, 2, 2000, 3000, 0);
        x.element(false);
        x.line(0, 1999, 9);
        x.line(0, 3001, 9);
        x.line(0, 2000, 2);
        due("neither of three", x.missed(0, 1, 0), 0);
        x.line(0, 2000, 3);
        x.line(0, 3000, 3);
        due("two", x.missed(0, 1, 0), 2);
        due("one is shifted from the plate, another onto it", x.missed(0, 1, 1), 2);
        due("at a speed down", x.missed(0, 1, -1), 2);
    }

    static void promise26WithoutASpanAllAreMissed() {
        RainbowPlate x = Make.lawless();
        x.line(0, 2000, 1);
        x.reading(0, 200, false, 1, 1);
        due("missed", x.missed(0, 1, 0), 1);
    }

    static void promise27PlatesThatAreThere() {
        for (int plate : Checks.outside(0, 1)) {
            refused("plate " + plate, INDEX, y -> y.speeds(plate, 0, 0));
            refused("no plate ahead of no what " + plate, INDEX, y -> y.speeds(plate, 0, 3));
        }
        refusedByFresh("without any", INDEX, y -> y.speeds(0, 0, 0));
    }

    static void promise27WhatFrom0To2() {
        for (int what : Checks.outside(0, 2)) {
            refused("what " + what, NO_SUCH, y -> y.speeds(0, 0, what));
        }
    }

    private static void dueSpeeds(String what, RainbowPlate x, int many, int least, int greatest) {
        due(what + ": how many", x.speeds(0, 1, 0), many);
        due(what + ": least", x.speeds(0, 1, 1), least);
        due(what + ": greatest", x.speeds(0, 1, 2), greatest);
    }

    static void promise27AllOfThem() {
        dueSpeeds("nothing to explain", Make.bright(), 101, -50, 50);
    }

    static void promise27Without() {
        RainbowPlate x = Make.bright();
        x.line(0, 2000, 9);
        dueSpeeds("a line that is missed", x, 0, 99, 99);
    }

    static void promise27TheFirstAndTheLastAlone() {
        RainbowPlate x = Make.faint();
        x.line(0, 2000, 1);
        x.reading(0, 220, false, 1, 1);
        dueSpeeds("2100", x, 1, 50, 50);
        x.away();
        x.reading(0, 180, false, 1, 1);
        dueSpeeds("1900", x, 1, -50, -50);
        x.away();
        x.reading(0, 221, false, 1, 1);
        dueSpeeds("2105", x, 0, 99, 99);
        x.away();
        x.reading(0, 179, false, 1, 1);
        dueSpeeds("1895", x, 0, 99, 99);
        x.away();
        x.reading(0, 200, false, 1, 1);
        dueSpeeds("2000", x, 1, 0, 0);
    }

    static void promise28WhatIsNotThere() {
        for (int n : Checks.outside(0, 1)) {
            refused("plate " + n, INDEX, y -> y.amount(n, 0, 0, false));
        }
        for (int n : Checks.outside(0, 2)) {
            refused("element " + n, INDEX, y -> y.amount(0, -1, n, true));
        }
        refusedByFresh("without anything", INDEX, y -> y.amount(0, 0, 0, false));
    }

    /** A line of such a strength, seen as such, alone in a reading: the least and greatest amount. */
    private static void dueAmounts(int strength, int seen, int least, int most) {
        RainbowPlate x = Make.bright();
        x.line(0, 2000, strength);
        x.reading(0, 200, false, seen, 1);
        due(strength + " seen " + seen + ": least", x.amount(0, 1, 0, false), least);
        due(strength + " seen " + seen + ": greatest", x.amount(0, 1, 0, true), most);
    }

    static void promise28From1To9() {
        RainbowPlate x = Make.bright();
        due("least where all fit", x.amount(0, 1, 0, false), 1);
        due("greatest where all fit", x.amount(0, 1, 0, true), 9);
        dueAmounts(5, 1, 1, 2);
        dueAmounts(5, 9, 8, 9);
        // 9: 1 3 5 7 9 9, then 9 less 2, 4, 6
        dueAmounts(9, 1, 1, 1);
        // 4: 0 0 2 3 4 4 5 6 7
        dueAmounts(4, 8, 9, 9);
    }

    static void promise28None() {
        dueAmounts(1, 3, -1, -1);
        dueAmounts(1, 9, -1, -1);
    }

    static void promise28WholePartOfStrengthTimesAmountBy5() {
        // 3 times 1 to 9 by 5: 0 1 1 2 3 3 4 4 5
        dueAmounts(3, 1, 1, 4);
        dueAmounts(3, 2, 2, 6);
        dueAmounts(3, 5, 7, 9);
        dueAmounts(3, 6, 9, 9);
        dueAmounts(3, 7, -1, -1);
    }

    static void promise28ItShows9AtMost() {
        // 6 times 8 by 5 is 9, times 9 is 10
        dueAmounts(6, 9, 7, 9);
        dueAmounts(6, 8, 6, 9);
        // 9 times 6 by 5 is 10
        dueAmounts(9, 9, 5, 6);
        dueAmounts(9, 8, 4, 7);
    }

    static void promise28AStrengthOf7IsDimmedAbove6() {
        // 7: 1 2 4 5 7 8, then 9 less 2, 4, 6
        dueAmounts(7, 9, 6, 6);
        dueAmounts(7, 8, 5, 7);
        dueAmounts(7, 6, 4, 8);
        // 6 is not: 1 2 3 4 6 7 8 9 9
        dueAmounts(6, 2, 1, 3);
        dueAmounts(6, 4, 3, 4);
    }

    static void promise28AnAmountOf6IsNotDimmed() {
        // 8: 1 3 4 6 8 9, then 9 less 2, 4, 6
        dueAmounts(8, 9, 5, 6);
        dueAmounts(8, 7, 4, 7);
        dueAmounts(8, 6, 4, 8);
        dueAmounts(8, 2, 1, 9);
    }

    static void promise28ReadingsMayBe1Off() {
        // 5 times 5 by 5 is 5
        dueAmounts(5, 4, 3, 5);
        dueAmounts(5, 5, 4, 6);
        dueAmounts(5, 6, 5, 7);
    }

    static void promise28TheElementCountsAsOneOfTheSet() {
        RainbowPlate x = Make.bright();
        x.element(false);
        x.line(0, 2000, 5);
        x.line(1, 2000, 5);
        x.reading(0, 200, false, 9, 1);
        due("0 by the empty set", x.amount(0, 0, 0, false), 8);
        due("0 by a set of 1: two lines are in it", x.amount(0, 2, 0, false), 1);
        due("1 by the empty set", x.amount(0, 0, 1, false), 8);
        due("bits of none", x.amount(0, -4, 0, false), 8);
    }

    static void promise28OnlyLinesThatMustBeSeenAndLieInAReading() {
        RainbowPlate x = Make.exact();
        x.plate(5, 2, 2000, 3000, 0);
        x.element(false);
        x.line(0, 2000, 3);
        due("3 times 10, in no reading", x.amount(0, 1, 0, true), 9);
        x.reading(0, 200, false, 1, 1);
        // 0 1 1 2 3 3 4 4 5
        due("in a reading", x.amount(0, 1, 0, true), 4);
        RainbowPlate y = Make.exact();
        y.plate(5, 2, 2000, 3000, 0);
        y.element(false);
        y.line(0, 2000, 2);
        y.reading(0, 200, false, 9, 1);
        due("2 times 10 need not be seen", y.amount(0, 1, 0, true), 9);
    }

    static void promise28NoOtherLineInTheSpan() {
        RainbowPlate x = Make.bright();
        x.element(true);
        x.line(0, 2000, 5);
        x.reading(0, 200, false, 1, 1);
        due("alone", x.amount(0, 1, 0, true), 2);
        x.line(1, 2001, 5);
        due("air beside it", x.amount(0, 1, 0, true), 2);
        x.line(1, 2000, 5);
        due("air in it", x.amount(0, 1, 0, true), 9);
    }

    static void promise29PlatesThatAreThere() {
        for (int plate : Checks.outside(0, 1)) {
            refused("wide, plate " + plate, INDEX, y -> y.wide(plate, 0, false));
            refused("shared, plate " + plate, INDEX, y -> y.wide(plate, 0, true));
        }
        refusedByFresh("without any", INDEX, y -> y.wide(0, 0, false));
    }

    static void promise29WidthAboveTheSlit() {
        for (int slit = 1; slit <= 5; slit++) {
            RainbowPlate x = Make.exact();
            x.plate(1, slit, 1000, 9999, 0);
            x.reading(0, 200, false, 1, slit);
            due("as wide as " + slit, x.wide(0, 0, false), 0);
            x.reading(0, 200, false, 1, slit + 1);
            due("wider than " + slit, x.wide(0, 0, false), 2);
        }
    }

    static void promise29FewerThanTwoLines() {
        RainbowPlate x = Make.faint();
        x.reading(0, 200, false, 1, 9);
        due("none", x.wide(0, 1, false), 1);
        x.line(0, 2000, 1);
        due("one", x.wide(0, 1, false), 1);
        x.line(0, 2000, 1);
        due("two", x.wide(0, 1, false), 0);
        due("two, but not of the set", x.wide(0, 0, false), 1);
    }

    static void promise29WithoutASpan() {
        RainbowPlate x = Make.lawless();
        x.element(true);
        x.line(0, 2000, 1);
        x.line(1, 2000, 1);
        x.reading(0, 200, false, 1, 6);
        due("wide: no line lies in it", x.wide(0, 1, false), 1);
        due("shared", x.wide(0, 1, true), 0);
    }

    static void promise29NoReadingsAndTheLast() {
        RainbowPlate x = Make.faint();
        due("none", x.wide(0, -1, false), 0);
        due("none shared", x.wide(0, -1, true), 0);
        x.element(true);
        x.line(0, 1115, 1);
        x.line(1, 1115, 1);
        for (int n = 0; n < 24; n++) {
            x.reading(0, n, false, 1, 9);
        }
        due("all but the last", x.wide(0, 1, false), (1 << 23) - 1);
        due("the last is shared", x.wide(0, 1, true), 1 << 23);
    }

    static void promise29SharedByTwoUnlikeElements() {
        RainbowPlate x = Make.faint();
        x.element(false);
        x.element(true);
        x.reading(0, 200, false, 1, 1);
        x.line(0, 2000, 1);
        x.line(0, 2000, 1);
        due("two lines of one", x.wide(0, 7, true), 0);
        x.line(1, 2000, 1);
        due("two elements", x.wide(0, 3, true), 1);
        due("one of them", x.wide(0, 2, true), 0);
        x.line(2, 2000, 1);
        due("one and air", x.wide(0, 2, true), 1);
        due("air alone", x.wide(0, 0, true), 0);
        due("bits of none", x.wide(0, -8, true), 0);
    }
}
