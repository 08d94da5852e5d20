/** Promises 36 to 43: each sentence that names a boundary, in a method of its own named by its promise. */
public final class BellEdgesTest extends Edges {
    public static void main(String[] args) throws Exception {
        Checks.runPromises(BellEdgesTest.class, 36, 43);
    }

    private static void dueChance(String what, RainbowPlate x, int set, int maker, int above, int below) {
        due(what + ": above", x.chance(0, set, maker, false), above);
        due(what + ": below", x.chance(0, set, maker, true), below);
    }

    /** Amounts 4, 5 and 6 fit of element 0, all nine of element 1; element 2 is air. */
    private static RainbowPlate bell() {
        RainbowPlate x = Make.bright();
        x.element(false);
        x.element(true);
        x.line(0, 2000, 5);
        x.reading(0, 200, false, 5, 1);
        x.maker();
        return x;
    }

    static void promise36ThereIsRoomFor4() {
        RainbowPlate x = new RainbowPlate();
        for (int n = 0; n < 4; n++) {
            due("maker " + n, x.maker(), n);
        }
        refusedByFull("a 5th", FULL, RainbowPlate::maker);
    }

    static void promise36ANewOneTakesAmountsFrom0To9() {
        RainbowPlate x = bell();
        x.image();
        x.maker();
        for (int e = 0; e < 6; e++) {
            x.recipe(1, e, 9, 9);
        }
        x.back();
        x.maker();
        dueChance("after the way back", x, 3, 1, 1, 1);
        dueChance("by the empty set", x, 0, 1, 1, 1);
    }

    static void promise37MakersThatAreThere() {
        for (int maker : Checks.outside(0, 1)) {
            refused("maker " + maker, INDEX, y -> y.recipe(maker, 0, 0, 9));
        }
        refusedByFull("maker 4 of four", INDEX, y -> y.recipe(4, 0, 0, 9));
        Checks.refused("without any", INDEX, Make::bright, y -> y.recipe(0, 0, 0, 9));
    }

    static void promise37ElementsFrom0To5() {
        RainbowPlate x = new RainbowPlate();
        x.maker();
        x.recipe(0, 0, 1, 2);
        x.recipe(0, 5, 1, 2);
        for (int element : Checks.outside(0, 5)) {
            refused("element " + element, INDEX, y -> y.recipe(0, element, 0, 9));
        }
    }

    static void promise37OfAnElementThatIsNotThereYet() {
        RainbowPlate x = bell();
        x.recipe(0, 5, 0, 3);
        for (int n = 3; n < 6; n++) {
            x.element(false);
        }
        dueChance("3 of 9", x, 32, 0, 1, 3);
    }

    static void promise37LowAndHighFrom0To9() {
        RainbowPlate x = bell();
        x.recipe(0, 0, 0, 0);
        dueChance("0 to 0", x, 1, 0, 0, 1);
        dueChance("0 to 0, not of the set", x, 0, 0, 1, 1);
        x.recipe(0, 0, 9, 9);
        dueChance("9 to 9", x, 1, 0, 0, 1);
        x.recipe(0, 0, 0, 9);
        dueChance("0 to 9", x, 1, 0, 1, 1);
        for (int n : Checks.outside(0, 9)) {
            refused("low " + n, ILLEGAL, y -> y.recipe(0, 0, n, 9));
            refused("high " + n, ILLEGAL, y -> y.recipe(0, 0, 0, n));
            refused("low and high " + n, ILLEGAL, y -> y.recipe(0, 0, n, n));
        }
    }

    static void promise37HighNotBelowLow() {
        RainbowPlate x = bell();
        x.recipe(0, 0, 5, 5);
        dueChance("5 to 5", x, 1, 0, 1, 3);
        refused("5 to 4", ILLEGAL, y -> y.recipe(0, 0, 5, 4));
        refused("9 to 0", ILLEGAL, y -> y.recipe(0, 0, 9, 0));
    }

    static void promise37OfSeveralExceptionsTheFirst() {
        refused("no maker, no amounts", INDEX, y -> y.recipe(2, 0, 0, 10));
        refused("no element, no amounts", INDEX, y -> y.recipe(0, 6, -1, 9));
        refused("neither", INDEX, y -> y.recipe(-1, -1, 9, 0));
    }

    static void promise38WhatIsNotThere() {
        for (int n : Checks.outside(0, 1)) {
            refused("plate " + n, INDEX, y -> y.chance(n, 0, 0, false));
            refused("maker " + n, INDEX, y -> y.chance(0, 0, n, true));
        }
        Checks.refused("without a maker", INDEX, Make::bright, y -> y.chance(0, 0, 0, false));
        refusedByFresh("without anything", INDEX, y -> y.chance(0, 0, 0, true));
    }

    static void promise38OfAmountsAtTheEndsOfARecipe() {
        RainbowPlate x = bell();
        int[][] recipes = {{0, 3, 0}, {0, 4, 1}, {4, 4, 1}, {4, 5, 2}, {4, 6, 3}, {5, 9, 2}, {6, 6, 1}, {6, 9, 1}, {7, 9, 0}};
        for (int[] r : recipes) {
            x.recipe(0, 0, r[0], r[1]);
            boolean whole = r[2] == 3;
            dueChance(r[0] + " to " + r[1], x, 1, 0, whole ? 1 : r[2], r[2] == 0 || whole ? 1 : 3);
        }
    }

    static void promise38AmountsAreFrom1To9() {
        RainbowPlate x = bell();
        x.recipe(0, 1, 0, 1);
        dueChance("0 does not count: 1 of 9", x, 2, 0, 1, 9);
        x.recipe(0, 1, 9, 9);
        dueChance("9 counts: 1 of 9", x, 2, 0, 1, 9);
        x.recipe(0, 1, 0, 0);
        dueChance("0 alone", x, 2, 0, 0, 1);
    }

    static void promise38AFractionWithoutACommonPart() {
        RainbowPlate x = bell();
        x.recipe(0, 0, 4, 5);
        x.recipe(0, 1, 1, 6);
        dueChance("2 of 3 times 6 of 9", x, 3, 0, 4, 9);
        x.recipe(0, 1, 1, 9);
        dueChance("2 of 3 times 9 of 9", x, 3, 0, 2, 3);
        x.recipe(0, 0, 4, 6);
        dueChance("all", x, 3, 0, 1, 1);
    }

    static void promise38NoElementsOfTheSet() {
        RainbowPlate x = bell();
        dueChance("the empty set", x, 0, 0, 1, 1);
        dueChance("bits of none", x, -8, 0, 1, 1);
        RainbowPlate y = Make.exact();
        y.plate(1, 1, 1000, 9999, 0);
        y.maker();
        dueChance("no elements at all", y, -1, 0, 1, 1);
    }

    static void promise38OfOneNoneFits() {
        RainbowPlate x = Make.bright();
        x.element(false);
        x.line(0, 2000, 1);
        x.reading(0, 200, false, 9, 1);
        x.maker();
        dueChance("of element 0 none fits", x, 1, 0, 0, 1);
        dueChance("also with element 1", x, 3, 0, 0, 1);
        dueChance("without it", x, 2, 0, 1, 1);
    }

    static void promise38ARecipeOfAnotherElementThatDoesNotBeginWith0() {
        RainbowPlate x = bell();
        x.recipe(0, 1, 1, 9);
        dueChance("1 to 9, not of the set", x, 1, 0, 0, 1);
        dueChance("of the set", x, 3, 0, 1, 1);
        x.recipe(0, 1, 0, 9);
        dueChance("0 to 9, not of the set", x, 1, 0, 1, 1);
    }

    static void promise38AirIsNotAsked() {
        RainbowPlate x = bell();
        x.recipe(0, 2, 9, 9);
        dueChance("not of the set", x, 1, 0, 1, 1);
        dueChance("told as of the set", x, 5, 0, 1, 1);
        x.line(2, 3000, 1);
        x.reading(0, 400, false, 9, 1);
        due("no amount of air fits", x.amount(0, 1, 2, false), -1);
        dueChance("which is nothing to it", x, 5, 0, 1, 1);
    }

    static void promise38TheGreatestNumbers() {
        RainbowPlate x = Make.bright();
        for (int n = 1; n < 6; n++) {
            x.element(false);
        }
        x.maker();
        for (int e = 0; e < 6; e++) {
            x.recipe(0, e, 2, 9);
        }
        dueChance("8 of 9 six times", x, 63, 0, 262144, 531441);
    }

    static void promise39PlatesThatAreThere() {
        for (int plate : Checks.outside(0, 1)) {
            refused("plate " + plate, INDEX, y -> y.likely(plate, 0));
        }
        refusedByFresh("without any", INDEX, y -> y.likely(0, 0));
    }

    static void promise39WithoutMakers() {
        due("none", Make.bright().likely(0, 0), -1);
    }

    static void promise39NoneIfAllAre0() {
        RainbowPlate x = bell();
        x.recipe(0, 0, 7, 9);
        due("one maker", x.likely(0, 1), -1);
        x.maker();
        x.recipe(1, 0, 0, 3);
        due("two makers", x.likely(0, 1), -1);
        x.maker();
        x.recipe(2, 0, 6, 9);
        due("the third is above 0", x.likely(0, 1), 2);
    }

    static void promise39OfSeveralTheLeast() {
        RainbowPlate x = bell();
        for (int n = 1; n < 4; n++) {
            x.maker();
        }
        due("four alike", x.likely(0, 1), 0);
        x.recipe(0, 0, 4, 5);
        due("1, 2 and 3 alike", x.likely(0, 1), 1);
        x.recipe(1, 0, 4, 5);
        x.recipe(2, 0, 5, 6);
        x.recipe(3, 0, 4, 4);
        due("2 of 3 three times", x.likely(0, 1), 0);
        x.recipe(3, 0, 1, 9);
        due("the last has the greatest", x.likely(0, 1), 3);
    }

    static void promise40WhatIsNotThere() {
        for (int n : Checks.outside(0, 1)) {
            refused("plate " + n, INDEX, y -> y.forged(n, 0, 0));
            refused("maker " + n, INDEX, y -> y.forged(0, 0, n));
        }
        Checks.refused("without a maker", INDEX, Make::bright, y -> y.forged(0, 0, 0));
    }

    static void promise40OneMakerAlone() {
        RainbowPlate x = bell();
        due("1 of 1", x.forged(0, 1, 0), false);
        x.recipe(0, 0, 4, 4);
        due("1 of 3", x.forged(0, 1, 0), false);
    }

    static void promise40WhereAllAre0NoneIs() {
        RainbowPlate x = bell();
        x.recipe(0, 0, 7, 9);
        x.maker();
        x.recipe(1, 0, 0, 3);
        due("maker 0", x.forged(0, 1, 0), false);
        due("maker 1", x.forged(0, 1, 1), false);
    }

    static void promise40AmongSeveralWithTheGreatest() {
        RainbowPlate x = bell();
        for (int n = 1; n < 4; n++) {
            x.maker();
        }
        x.recipe(0, 0, 4, 4);
        x.recipe(1, 0, 4, 5);
        x.recipe(2, 0, 5, 6);
        x.recipe(3, 0, 7, 9);
        due("1 of 3", x.forged(0, 1, 0), true);
        due("2 of 3", x.forged(0, 1, 1), false);
        due("2 of 3 as well", x.forged(0, 1, 2), false);
        due("0", x.forged(0, 1, 3), true);
    }

    static void promise40TheFirstMakerHasTheGreatest() {
        RainbowPlate x = bell();
        x.maker();
        x.recipe(1, 0, 4, 5);
        due("maker 0", x.forged(0, 1, 0), false);
        due("maker 1", x.forged(0, 1, 1), true);
    }

    static void promise41OffFrom0To999() {
        // 5000 is 2500 and 2500
        due("0", Make.waves(2000, 4000, 4000).sums(0, 0, 0), 1);
        due("999", Make.waves(2000, 4000, 4000).sums(0, 0, 999), 1);
        for (int off : Checks.outside(0, 999)) {
            refused("off " + off, ILLEGAL, y -> y.sums(0, 0, off));
        }
    }

    static void promise41PlatesThatAreThere() {
        for (int plate : Checks.outside(0, 1)) {
            refused("plate " + plate, INDEX, y -> y.sums(plate, 0, 0));
            refused("no plate ahead of no number " + plate, INDEX, y -> y.sums(plate, 0, 1000));
        }
        refusedByFresh("without any", INDEX, y -> y.sums(0, 0, 0));
    }

    static void promise41ThreeReadingsAtLeast() {
        due("none", Make.waves().sums(0, 0, 999), 0);
        due("two", Make.waves(2000, 4000).sums(0, 0, 999), 0);
        due("a reading is not taken twice", Make.waves(4000, 2000, 5995).sums(0, 0, 0), 0);
    }

    static void promise41ToTheNumberMoreOrLess() {
        // 5000 and 2000 and 2500: 500 more; 4000 and 2000 and 2500: 500 less
        due("500 more", Make.waves(2000, 5000, 4000).sums(0, 0, 500), 1);
        due("499 is too little", Make.waves(2000, 5000, 4000).sums(0, 0, 499), 0);
        due("500 less", Make.waves(2500, 5000, 4000).sums(0, 0, 500), 1);
        due("499 is too little for it", Make.waves(2500, 5000, 4000).sums(0, 0, 499), 0);
    }

    static void promise41ASetOfThreeCountsOnce() {
        // 10000000 by 5995 is 1668, and so far is each of three from the other two together
        due("not to 999", Make.waves(5995, 5995, 5995).sums(0, 0, 999), 0);
        RainbowPlate y = new RainbowPlate();
        y.error(0);
        y.screw(2, 9, 1, 9);
        y.known(500, false, 9999, false);
        y.known(400, false, 9500, false);
        y.plate(1, 1, 1000, 9999, 0);
        y.reading(0, 999, true, 1, 1);
        y.reading(0, 999, true, 1, 1);
        y.reading(0, 999, true, 1, 1);
        // numbers below 1000, so that each of three is the other two to 999
        due("in three ways", y.sums(0, 0, 999), 1);
    }

    static void promise41WhicheverOfThreeIsTheSum() {
        due("the first", Make.waves(2000, 4000, 4000).sums(0, 0, 0), 1);
        due("the second", Make.waves(4000, 2000, 4000).sums(0, 0, 0), 1);
        due("the third", Make.waves(4000, 4000, 2000).sums(0, 0, 0), 1);
        due("none", Make.waves(2000, 2500, 4000).sums(0, 0, 0), 0);
    }

    static void promise41OnlyTheFirst10() {
        due("120 sets of three of ten", Make.waves(2000, 2000, 2000, 2000, 2000, 2000, 2000, 2000, 4000, 4000, 4000).sums(0, 0, 0), 8);
    }

    static void promise41WithoutSpans() {
        RainbowPlate x = Make.lawless();
        for (int n = 0; n < 3; n++) {
            x.reading(0, 200, false, 1, 1);
        }
        due("none", x.sums(0, 0, 999), 0);
    }

    static void promise42PlatesThatAreThere() {
        for (int plate : Checks.outside(0, 1)) {
            refused("plate " + plate, INDEX, y -> y.grain(plate, 0));
        }
        refusedByFresh("without any", INDEX, y -> y.grain(0, 0));
    }

    static void promise42AStrengthOf1() {
        RainbowPlate x = Make.faint();
        due("no reading", x.grain(0, 0), 0);
        x.reading(0, 200, false, 1, 1);
        x.reading(0, 300, false, 2, 1);
        due("1 and 2", x.grain(0, 0), 1);
        x.line(0, 2000, 1);
        due("not left", x.grain(0, 1), 0);
    }

    static void promise42AllReadings() {
        RainbowPlate x = Make.faint();
        for (int n = 0; n < 24; n++) {
            x.reading(0, n, false, 1, 1);
        }
        due("24", x.grain(0, -1), (1 << 24) - 1);
        RainbowPlate y = Make.lawless();
        y.reading(0, 200, false, 1, 1);
        due("without a span", y.grain(0, 1), 1);
    }

    static void promise42GhostsAreNone() {
        RainbowPlate x = Make.exact();
        x.plate(1, 1, 1000, 9999, 10);
        x.reading(0, 200, false, 7, 1);
        x.reading(0, 211, false, 1, 1);
        x.reading(0, 212, false, 1, 1);
        due("12 ticks from it", x.grain(0, 0), 4);
    }

    static void promise43ElementsThatAreThere() {
        for (int n : Checks.outside(0, 2)) {
            refused("element " + n, INDEX, y -> y.near(n, 0, 0));
            refused("of " + n, INDEX, y -> y.near(0, n, 0));
            refused("no element ahead of no number " + n, INDEX, y -> y.near(n, 0, 1000));
            refused("no other ahead of no number " + n, INDEX, y -> y.near(0, n, -1));
        }
        refusedByFresh("without any", INDEX, y -> y.near(0, 0, 0));
    }

    static void promise43ByFrom0To999() {
        RainbowPlate x = new RainbowPlate();
        x.element(false);
        x.element(true);
        x.line(0, 5000, 1);
        x.line(1, 5999, 1);
        due("999", x.near(0, 1, 999), 1);
        due("998", x.near(0, 1, 998), 0);
        x.line(0, 5999, 1);
        due("0", x.near(0, 1, 0), 1);
        for (int by : Checks.outside(0, 999)) {
            refused("by " + by, ILLEGAL, y -> y.near(0, 1, by));
        }
    }

    static void promise43AsNearAsTold() {
        RainbowPlate x = new RainbowPlate();
        x.element(false);
        x.element(false);
        x.line(0, 5000, 1);
        x.line(1, 5010, 1);
        due("10", x.near(0, 1, 10), 1);
        due("9", x.near(0, 1, 9), 0);
        due("10 the other way", x.near(1, 0, 10), 1);
        due("9 the other way", x.near(1, 0, 9), 0);
    }

    static void promise43WithoutLines() {
        RainbowPlate x = new RainbowPlate();
        x.element(false);
        x.element(false);
        due("neither has", x.near(0, 1, 999), 0);
        x.line(0, 5000, 1);
        due("the other has none", x.near(0, 1, 999), 0);
        due("it has none", x.near(1, 0, 999), 0);
    }

    static void promise43SixLinesOfOneAreNotTheNexts() {
        RainbowPlate x = new RainbowPlate();
        for (int e = 0; e < 3; e++) {
            x.element(false);
        }
        for (int n = 0; n < 6; n++) {
            x.line(0, 5000, 1);
        }
        x.line(1, 8000, 1);
        x.line(2, 8000, 1);
        due("of 2 by 0", x.near(2, 0, 0), 0);
        due("of 0 by 2", x.near(0, 2, 0), 0);
        due("of 2 by 1", x.near(2, 1, 0), 1);
    }

    static void promise43SixLinesByOne() {
        RainbowPlate x = new RainbowPlate();
        x.element(false);
        x.element(false);
        for (int n = 0; n < 6; n++) {
            x.line(0, 5000 + n, 1);
        }
        x.line(1, 5000, 1);
        due("all", x.near(0, 1, 5), 6);
        due("all but the last", x.near(0, 1, 4), 5);
        due("the one counts once", x.near(1, 0, 5), 1);
    }
}
