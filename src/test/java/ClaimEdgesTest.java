/** Promises 44 to 49: each sentence that names a boundary, in a method of its own named by its promise. */
public final class ClaimEdgesTest extends Edges {
    public static void main(String[] args) throws Exception {
        Checks.runPromises(ClaimEdgesTest.class, 44, 49);
    }

    private static void dueRight(String text) {
        RainbowPlate x = new RainbowPlate();
        Checks.put(x, text);
        due("claim " + text, x.claim(), 0);
        due("fault of " + text, x.fault(), -1);
    }

    private static void dueWrong(String text, int at) {
        RainbowPlate x = new RainbowPlate();
        Checks.put(x, text);
        thrown("claim " + text, ILLEGAL, x::claim);
        due("fault of " + text, x.fault(), at);
        due("no claim of " + text, x.count(7), 0);
    }

    private static boolean judged(RainbowPlate x, String text) {
        Checks.put(x, text);
        return x.holds(x.claim(), 0);
    }

    /** Whether a text holds of a plate with which it has nothing to do. */
    private static void dueHolds(String text, boolean want) {
        due(text, judged(Make.bright(), text), want);
    }

    static void promise44ThereIsRoomFor6() {
        RainbowPlate x = new RainbowPlate();
        for (int n = 0; n < 6; n++) {
            Checks.put(x, "may 0");
            due("claim " + n, x.claim(), n);
        }
        Checks.put(x, "may 0");
        thrown("a 7th", FULL, x::claim);
        due("six stay", x.count(7), 6);
    }

    static void promise44AWrongTextIsToldAheadOfNoRoom() {
        RainbowPlate x = Make.full();
        Checks.put(x, "may 6");
        thrown("a wrong 7th", ILLEGAL, x::claim);
        due("its fault", x.fault(), 4);
        due("six stay", x.count(7), 6);
    }

    static void promise44UsesTheTapeUp() {
        RainbowPlate right = new RainbowPlate();
        Checks.put(right, "may 0");
        right.claim();
        due("a right text", right.end(1), false);
        RainbowPlate wrong = new RainbowPlate();
        Checks.put(wrong, "may 6");
        thrown("wrong", ILLEGAL, wrong::claim);
        due("a wrong text", wrong.end(1), false);
        RainbowPlate full = Make.full();
        thrown("full", FULL, full::claim);
        due("a text without room", full.end(1), false);
    }

    static void promise44ACallThatThrowsChangesNothingButTheTape() {
        RainbowPlate wrong = Make.rich();
        Checks.put(wrong, "may 6");
        thrown("wrong", ILLEGAL, wrong::claim);
        Checks.put(wrong, "not 7 < 8 or may 2");
        Checks.same("a wrong text", State.of(wrong), State.of(Make.rich()));
        RainbowPlate full = Make.full();
        thrown("full", FULL, full::claim);
        Checks.put(full, "not 7 < 8 or may 2");
        Checks.same("a text without room", State.of(full), State.of(Make.full()));
    }

    static void promise44NoTextAtAll() {
        dueWrong("", 0);
        dueWrong(" ", 1);
        dueWrong(" ".repeat(400), 400);
    }

    static void promise44AfterOneThatWasUsedUpTheNextIsEmpty() {
        RainbowPlate x = new RainbowPlate();
        Checks.put(x, "may 0");
        x.claim();
        thrown("nothing came", ILLEGAL, x::claim);
        due("its fault", x.fault(), 0);
        due("one claim", x.count(7), 1);
    }

    static void promise44TheLongestTexts() {
        StringBuilder ones = new StringBuilder("1");
        while (ones.length() < 397) {
            ones.append("+1");
        }
        // 199 ones
        dueHolds(ones + ">1", true);
        dueHolds(ones.substring(0, 395) + ">198", false);
        dueHolds(ones.substring(0, 395) + ">197", true);
        dueHolds("1<2" + " ".repeat(397), true);
        dueHolds(" ".repeat(397) + "1<2", true);
        dueHolds("2<1or " + "2<1or ".repeat(65) + "1<2", true);
        dueHolds("2<1or " + "2<1or ".repeat(65) + "2<1", false);
        dueHolds("1<2and ".repeat(56) + "1<2", true);
        dueHolds("1<2and ".repeat(56) + "2<1", false);
    }

    static void promise44TheMostSigns() {
        dueWrong("(".repeat(400), 6);
        dueWrong("1".repeat(400), 0);
        dueWrong("1<1" + "+1".repeat(198) + "+", 400);
        dueWrong("1+".repeat(200), 400);
    }

    static void promise44BlanksBetweenAheadAndBehind() {
        dueRight("may0");
        dueRight("  may   0  ");
        dueRight("1<2");
        dueRight("  1  +  2  <  3  +  4  ");
        dueRight("(may 0)or(may 1)and not(may 2)");
        dueRight("1<2or 1<2and 1<2");
        dueRight("1<laws or 1<laws");
        dueRight(" ".repeat(394) + "1<laws");
        dueWrong("may\t0", 3);
        dueWrong("may\n0", 3);
        dueWrong("may\u00000", 3);
    }

    static void promise44WordsAreAsLongAsLettersGoOn() {
        dueWrong("mayor 0", 0);
        dueWrong("notmay 0", 0);
        dueWrong("1<2 orr 1<2", 4);
        dueWrong("1<2 andnot 1<2", 4);
        dueWrong("1<2orand 1<2", 3);
        dueWrong("setsets<1", 0);
        for (String word : new String[] {"nay 0", "xure 0", "xot may 0", "jets<1", "tewest<1", "headings<1", "hhosts<1", "jaws<1"}) {
            dueWrong(word, 0);
        }
        dueWrong("1<2 xr 1<2", 4);
        dueWrong("1<2 end 1<2", 4);
        dueWrong("mat 0", 0);
        dueWrong("seta<1", 0);
        dueWrong("s ets<1", 0);
        dueWrong("MAY 0", 0);
        dueWrong("maY 0", 0);
        dueWrong("may` 0", 3);
        dueWrong("may{ 0", 3);
    }

    static void promise44NumbersOf1To4Digits() {
        dueHolds("0<1", true);
        dueHolds("9999>9998", true);
        dueHolds("0000<0001", true);
        dueHolds("0010>9", true);
        dueWrong("10000>1", 0);
        dueWrong("00000<1", 0);
        dueWrong("1<10000", 2);
        dueWrong("1+12345<1", 2);
        dueWrong("1 2<3", 2);
        dueWrong("/<1", 0);
        dueWrong(":<1", 0);
    }

    static void promise44ElementsFrom0To5() {
        for (int n = 0; n <= 5; n++) {
            dueRight("may " + n);
            dueRight("sure " + n);
        }
        dueWrong("may 6", 4);
        dueWrong("sure 6", 5);
        dueWrong("may 9999", 4);
        dueWrong("sure 10", 5);
        dueWrong("may 10000", 4);
        dueWrong("may -1", 4);
        dueWrong("may sets", 4);
        dueWrong("may", 3);
        dueWrong("sure  ", 6);
    }

    static void promise44AtMost6Deep() {
        dueRight("((((((may 0))))))");
        dueWrong("(((((((may 0)))))))", 6);
        dueRight("not not not not not not may 0");
        dueWrong("not not not not not not not may 0", 24);
        dueRight("not(not(not(may 0)))");
        dueWrong("not(not(not((may 0))))", 12);
        dueWrong("not(not(not(not may 0)))", 12);
        dueWrong("((((((not may 0))))))", 6);
        dueWrong("not not not not not not (may 0)", 24);
        dueRight("((((((may 0 and may 1 or may 2))))))");
    }

    static void promise44BesideOneAnotherDepthDoesNotAddUp() {
        dueRight("((((((may 0)))))) and ((((((may 1)))))) or not not not not not not may 2");
        dueRight("(may 0) or (may 0) or (may 0) or (may 0) or (may 0) or (may 0) or (may 0) or (may 0)");
        dueRight("not may 0 and not may 0 and not may 0 and not may 0 and not may 0 and not may 0 and not may 0");
        dueRight("(((((may 0) and (may 1)) or not may 2))) and not (not may 3)");
        dueWrong("((((((may 0)))))) or (((((((may 1)))))))", 27);
    }

    static void promise45NoneAheadOfAny() {
        RainbowPlate x = new RainbowPlate();
        due("new", x.fault(), -1);
        Checks.put(x, "wrong");
        due("a text that was not read yet", x.fault(), -1);
    }

    static void promise45OfTheLatestText() {
        RainbowPlate x = new RainbowPlate();
        Checks.put(x, "may 6");
        thrown("wrong", ILLEGAL, x::claim);
        due("asked once", x.fault(), 4);
        due("asked twice", x.fault(), 4);
        Checks.put(x, "may 5");
        due("the next is not read yet", x.fault(), 4);
        x.claim();
        due("a right one", x.fault(), -1);
        Checks.put(x, "(may 5");
        thrown("wrong again", ILLEGAL, x::claim);
        due("more must come", x.fault(), 6);
    }

    static void promise45OfARightTextWithoutRoom() {
        RainbowPlate x = Make.full();
        Checks.put(x, "may 6");
        thrown("wrong", ILLEGAL, x::claim);
        Checks.put(x, "may 5");
        thrown("right, without room", FULL, x::claim);
        due("nothing was wrong in it", x.fault(), -1);
    }

    static void promise45TheTextsLengthIfMoreMustCome() {
        dueWrong("may", 3);
        dueWrong("may ", 4);
        dueWrong("not", 3);
        dueWrong("(", 1);
        dueWrong("(may 0", 6);
        dueWrong("(may 0  ", 8);
        dueWrong("may 0 and", 9);
        dueWrong("may 0 or ", 9);
        dueWrong("1", 1);
        dueWrong("1+", 2);
        dueWrong("1<", 2);
        dueWrong("1<2+", 4);
        dueWrong("laws", 4);
        dueWrong("may 0 or " + " ".repeat(391), 400);
    }

    static void promise45TheBeginOfTheFirstThingThatCannotStandThere() {
        dueWrong(")", 0);
        dueWrong("<", 0);
        dueWrong("+1<2", 0);
        dueWrong("and may 0", 0);
        dueWrong("may 0)", 5);
        dueWrong("may 0 may 1", 6);
        dueWrong("may 0 not may 1", 6);
        dueWrong("may 0 < 1", 6);
        dueWrong("(1) < 2", 2);
        dueWrong("1 < 2 > 3", 6);
        dueWrong("1 < (2)", 4);
        dueWrong("1 < sure 0", 4);
        dueWrong("1 or 2 < 3", 2);
        dueWrong("1 ++ 2 < 3", 3);
        dueWrong("may 0 or and may 1", 9);
        dueWrong("may 0 , may 1", 6);
        dueWrong("()", 1);
        dueWrong("(may 0 or)", 9);
        dueWrong("not or", 4);
    }

    static void promise45WhatIsNoSignClosesNothing() {
        dueWrong("(may 0#", 6);
        dueWrong("(may 0 word", 7);
        dueWrong("(may 0 12345", 7);
        dueWrong("(may 0]", 6);
        dueWrong("[may 0]", 0);
        dueWrong("1 = 2", 2);
        dueWrong("1 - 2 < 3", 2);
    }

    static void promise45BytesBehindTheEndDoNotCount() {
        RainbowPlate x = new RainbowPlate();
        Checks.put(x, "sets<lawsabc");
        x.end(9);
        due("letters", x.claim(), 0);
        Checks.put(x, "1<9999999999");
        x.end(6);
        due("digits", x.claim(), 1);
    }

    static void promise45BytesAbove127() {
        dueWrong("may 0 \u0080", 6);
        dueWrong("\u00FFmay 0", 0);
        dueWrong("may \u00B1", 4);
        dueWrong("may\u00E1 0", 3);
        dueWrong("may\u00A00", 3);
    }

    static void promise46ClaimsAndPlatesThatAreThere() {
        for (int n : Checks.outside(0, 1)) {
            refused("claim " + n, INDEX, y -> y.holds(n, 0));
            refused("plate " + n, INDEX, y -> y.holds(0, n));
        }
        Checks.refused("without a claim", INDEX, Make::bright, y -> y.holds(0, 0));
        refusedByFull("claim 6 of six", INDEX, y -> y.holds(6, 0));
        refusedByFull("plate 3 of three", INDEX, y -> y.holds(0, 3));
    }

    static void promise46OrAndNotParentheses() {
        String[] values = {"2<1", "1<2"};
        for (int a = 0; a < 2; a++) {
            dueHolds("not " + values[a], a == 0);
            for (int b = 0; b < 2; b++) {
                dueHolds(values[a] + " or " + values[b], a + b > 0);
                dueHolds(values[a] + " and " + values[b], a + b > 1);
                for (int c = 0; c < 2; c++) {
                    String all = values[a] + " or " + values[b] + " and " + values[c];
                    dueHolds(all, a == 1 || b + c == 2);
                    dueHolds("(" + values[a] + " or " + values[b] + ") and " + values[c], a + b > 0 && c == 1);
                    dueHolds(values[a] + " and " + values[b] + " or " + values[c], a + b == 2 || c == 1);
                    dueHolds("not (" + all + ")", !(a == 1 || b + c == 2));
                    dueHolds("not " + all, a == 0 || b + c == 2);
                }
            }
        }
    }

    static void promise46LessAndMoreAreStrict() {
        dueHolds("1<1", false);
        dueHolds("1>1", false);
        dueHolds("1<2", true);
        dueHolds("2<1", false);
        dueHolds("2>1", true);
        dueHolds("1>2", false);
        dueHolds("9999+9999>9999+9998", true);
        dueHolds("1+2<3", false);
        dueHolds("3>1+1", true);
        dueHolds("3<1+1+2", true);
    }

    private static void dueValue(RainbowPlate x, String word, int value) {
        x.image();
        due(word + " above " + (value - 1), judged(x, word + "+1>" + value), true);
        x.back();
        due(word + " not above " + value, judged(x, word + ">" + value), false);
        x.back();
        due(word + " not below " + value, judged(x, word + "<" + value), false);
        x.back();
    }

    static void promise46WithoutAnySet() {
        RainbowPlate x = Make.bright();
        x.reading(0, 200, false, 1, 1);
        dueValue(x, "sets", 0);
        dueValue(x, "fewest", 99);
        due("may", judged(x, "may 0"), false);
        due("sure", judged(x, "sure 0"), false);
    }

    static void promise46TheFewestAreNone() {
        dueValue(Make.bright(), "fewest", 0);
        dueValue(Make.bright(), "sets", 2);
    }

    static void promise46TheFewestAreSix() {
        RainbowPlate x = Make.bright();
        for (int n = 0; n < 6; n++) {
            if (n > 0) {
                x.element(false);
            }
            x.line(n, 2000 + 100 * n, 1);
            x.reading(0, 200 + 20 * n, false, 1, 1);
        }
        dueValue(x, "fewest", 6);
        dueValue(x, "sets", 1);
        dueValue(x, "readings", 6);
        for (int n = 0; n < 3; n++) {
            due("sure " + n, judged(x, "sure " + n), true);
            due("may " + (5 - n), judged(x, "may " + (5 - n)), true);
        }
    }

    static void promise46AnElementThatIsNotThereIsNeitherSureNorMay() {
        RainbowPlate x = Make.bright();
        due("may 5", judged(x, "may 5"), false);
        due("sure 5", judged(x, "sure 5"), false);
        due("may 0", judged(x, "may 0"), true);
        RainbowPlate air = Make.bright();
        air.element(true);
        due("air", judged(air, "may 1 or sure 1"), false);
    }

    static void promise46ReadingsAndGhostsOfThePlate() {
        RainbowPlate x = Make.bright();
        dueValue(x, "readings", 0);
        dueValue(x, "ghosts", 0);
        RainbowPlate y = Make.exact();
        y.plate(1, 1, 1000, 9999, 1);
        y.plate(1, 1, 1000, 9999, 1);
        for (int n = 0; n < 23; n++) {
            y.reading(0, 200, false, 9, 1);
        }
        y.reading(1, 200, false, 9, 1);
        dueValue(y, "readings", 23);
        dueValue(y, "ghosts", 23);
    }

    static void promise46LawsAre9999AtMost() {
        RainbowPlate x = new RainbowPlate();
        x.plate(1, 1, 1000, 9999, 0);
        dueValue(x, "laws", 9999);
        x.error(2);
        x.known(0, false, 5000, false);
        // 5 times 90 times 19
        dueValue(x, "laws", 8550);
        x.error(3);
        // 7 times 90 times 19 is 11970
        dueValue(x, "laws", 9999);
        dueValue(Make.lawless(), "laws", 0);
        dueValue(Make.bright(), "laws", 1);
    }

    static void promise46AsItIsNow() {
        RainbowPlate x = Make.bright();
        Checks.put(x, "readings > 0");
        x.claim();
        due("none yet", x.holds(0, 0), false);
        x.reading(0, 200, false, 1, 1);
        due("one", x.holds(0, 0), true);
        x.away();
        due("none any more", x.holds(0, 0), false);
    }

    static void promise47TheLatestImageAloneIsKept() {
        RainbowPlate x = new RainbowPlate();
        x.image();
        x.element(false);
        x.image();
        x.element(false);
        x.back();
        due("one element", x.count(2), 1);
        x.back();
        due("still one", x.count(2), 1);
    }

    static void promise47OfANewObject() {
        RainbowPlate x = new RainbowPlate();
        x.image();
        x.screw(50, 9, 49, 9);
        x.error(50);
        x.known(0, false, 5000, false);
        x.gauge(0, false, 0, false, 1200);
        x.element(true);
        x.plate(1, 1, 1000, 9999, 0);
        x.reading(0, 0, false, 1, 1);
        x.maker();
        Checks.put(x, "may 0");
        x.claim();
        due("back", x.back(), true);
        Checks.same("all is new", State.of(x), withImage(new RainbowPlate()));
    }

    private static java.util.List<String> withImage(RainbowPlate x) {
        x.image();
        return State.of(x);
    }

    static void promise47KeepsAllThatIsFull() {
        RainbowPlate x = Make.full();
        x.error(50);
        x.screw(2, 0, 0, 0);
        for (int n = 0; n < 24; n++) {
            x.away();
        }
        x.recipe(3, 5, 9, 9);
        due("back", x.back(), true);
        Checks.put(x, "not 7 < 8 or may 2");
        Checks.same("as it was", State.of(x), State.of(Make.full()));
    }

    static void promise47AnswersNothingAndChangesNothing() {
        RainbowPlate x = Make.full();
        x.image();
        Checks.same("the same", State.of(x), State.of(Make.full()));
    }

    static void promise48WithoutAnImage() {
        RainbowPlate x = Make.bright();
        due("back", x.back(), false);
        due("again", x.back(), false);
        Checks.same("nothing happened", State.of(x), State.of(Make.bright()));
    }

    static void promise48AsOftenAsOneLikes() {
        RainbowPlate x = new RainbowPlate();
        x.image();
        for (int n = 0; n < 3; n++) {
            due("element", x.element(false), 0);
            due("back", x.back(), true);
            due("none", x.count(2), 0);
        }
    }

    static void promise48TheTapeStays() {
        RainbowPlate x = new RainbowPlate();
        Checks.put(x, "may 0");
        x.image();
        Checks.put(x, "may 6");
        x.back();
        thrown("the later text", ILLEGAL, x::claim);
        RainbowPlate y = new RainbowPlate();
        Checks.put(y, "may 0");
        y.image();
        y.claim();
        y.back();
        due("it was used up", y.end(1), false);
        due("but the claim is gone", y.count(7), 0);
    }

    static void promise48FaultStays() {
        RainbowPlate x = new RainbowPlate();
        x.image();
        Checks.put(x, "may 6");
        thrown("wrong", ILLEGAL, x::claim);
        x.back();
        due("of the later text", x.fault(), 4);
        x.image();
        Checks.put(x, "may 5");
        x.claim();
        x.back();
        due("of a right one", x.fault(), -1);
    }

    static void promise48ReadingsComeBack() {
        RainbowPlate x = Make.rich();
        x.image();
        for (int n = 0; n < 3; n++) {
            x.away();
        }
        for (int n = 0; n < 3; n++) {
            x.reading(1 - n / 2, 600 + n, n != 1, 4 + n, 7);
        }
        x.reading(0, 999, false, 1, 1);
        x.back();
        RainbowPlate want = Make.rich();
        want.image();
        Checks.same("three as they were", State.of(x), State.of(want));
    }

    static void promise48RecipesComeBack() {
        RainbowPlate x = Make.full();
        for (int m = 0; m < 4; m++) {
            for (int e = 0; e < 6; e++) {
                x.recipe(m, e, 9, 9);
            }
        }
        x.back();
        Checks.same("as they were", State.of(x), State.of(Make.full()));
    }

    static void promise48LinesOfElementsThatStayAreGone() {
        RainbowPlate x = Make.bright();
        x.line(0, 2000, 1);
        x.element(true);
        x.image();
        x.line(0, 3000, 1);
        x.line(1, 4000, 1);
        x.back();
        due("one stays", x.count(3), 1);
        thrown("the second of element 0", INDEX, () -> x.lies(0, 1, 0));
        thrown("the first of element 1", INDEX, () -> x.lies(1, 0, 0));
        due("room for it again", x.line(0, 5000, 1), 1);
        due("where it lies", x.lies(0, 1, 0), 5000);
    }

    static void promise48TheInstrumentComesBack() {
        RainbowPlate x = Make.exact();
        x.screw(20, 1, 2, 3);
        x.gauge(100, false, 110, false, 10);
        x.error(7);
        x.image();
        x.screw(10, 9, 9, 9);
        x.gauge(100, false, 110, false, 30);
        x.error(50);
        x.known(500, false, 9000, true);
        x.laws();
        x.back();
        RainbowPlate want = Make.exact();
        want.screw(20, 1, 2, 3);
        want.gauge(100, false, 110, false, 10);
        want.error(7);
        Checks.same("as it was", State.of(x), withImage(want));
    }

    static void promise48ThereIsRoomAgain() {
        RainbowPlate x = new RainbowPlate();
        x.image();
        for (int n = 0; n < 6; n++) {
            x.element(false);
            Checks.put(x, "may 0");
            x.claim();
        }
        x.back();
        due("for an element", x.element(false), 0);
        Checks.put(x, "may 1");
        due("for a claim", x.claim(), 0);
    }

    static void promise48ClaimsOfTheImageComeBack() {
        RainbowPlate x = Make.bright();
        Checks.put(x, "1 < 2");
        x.claim();
        x.image();
        x.back();
        Checks.put(x, "2 < 1");
        due("another", x.claim(), 1);
        due("it does not hold", x.holds(1, 0), false);
        x.back();
        due("the first holds", x.holds(0, 0), true);
        thrown("the other is gone", INDEX, () -> x.holds(1, 0));
    }

    static void promise49WhatFrom0To10() {
        RainbowPlate x = Make.full();
        int[] want = {8, 10, 6, 36, 3, 24, x.count(6), 6, 2, 24, 4};
        x.error(50);
        want[8] = 50;
        due("some law holds", x.laws() > 0, true);
        for (int what = 0; what <= 10; what++) {
            due("count " + what, x.count(what), want[what]);
        }
        for (int what : Checks.outside(0, 10)) {
            due("count " + what, x.count(what), -1);
        }
    }

    static void promise49AllOrNoneHaveASpan() {
        RainbowPlate x = Make.bright();
        due("no reading", x.count(9), 0);
        x.reading(0, 200, false, 1, 1);
        x.reading(0, 300, false, 1, 1);
        due("two", x.count(9), 2);
        x.known(0, false, 9000, false);
        due("none", x.count(9), 0);
    }

    static void promise49GhostsOfAllPlates() {
        RainbowPlate x = new RainbowPlate();
        for (int n = 0; n < 3; n++) {
            x.plate(1, 1, 1000, 9999, 2 - n);
            x.reading(n, 500, false, 9, 1);
            x.reading(n, 501, false, 9, 1);
        }
        due("two of each of the first two, none of the last", x.count(6), 4);
    }
}
