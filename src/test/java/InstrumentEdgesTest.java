/** Promises 1 to 14: each sentence that names a boundary, in a method of its own named by its promise. */
public final class InstrumentEdgesTest extends Edges {
    public static void main(String[] args) throws Exception {
        Checks.runPromises(InstrumentEdgesTest.class, 1, 14);
    }

    static void promise01ThereIsNoneOfAnything() {
        RainbowPlate x = new RainbowPlate();
        String[] kinds = {"gauges", "known lines", "elements", "lines", "plates", "readings", "ghosts", "claims"};
        for (int what = 0; what < kinds.length; what++) {
            due(kinds[what], x.count(what), 0);
        }
        due("readings with a span", x.count(9), 0);
        due("makers", x.count(10), 0);
    }

    static void promise01NoneIsMinus1() {
        due("NONE", RainbowPlate.NONE, -1);
    }

    static void promise01PeriodIs10AtFirst() {
        RainbowPlate x = new RainbowPlate();
        due("fits", x.fits(), 10 + 9 * 10 * 10);
        due("the last phase of wear 1, lag 0", x.fit(19), 1009);
        due("one more has lag 1", x.fit(20), 1100);
    }

    static void promise01WearAndLagAre0AtFirst() {
        RainbowPlate x = new RainbowPlate();
        for (int place = 0; place <= 10; place++) {
            due("up " + place, x.truly(place, false), place);
            due("down " + place, x.truly(place, true), place);
        }
    }

    static void promise01ErrorIs2AtFirst() {
        RainbowPlate x = new RainbowPlate();
        due("error", x.count(8), 2);
        x.known(0, false, 5000, false);
        due("five A for each B and C", x.laws(), 5 * 90 * 19);
    }

    static void promise01TheTapeIsEmpty() {
        due("end(1)", new RainbowPlate().end(1), false);
        due("end(0)", new RainbowPlate().end(0), true);
        due("the first feed", new RainbowPlate().feed(0, 0, 0, 0, 0), 20);
    }

    static void promise01ThereIsNoImageAndNoFault() {
        due("back", new RainbowPlate().back(), false);
        due("fault", new RainbowPlate().fault(), -1);
    }

    static void promise01OneObjectIsNothingToAnother() {
        Make.full();
        RainbowPlate x = new RainbowPlate();
        for (int what = 0; what < 8; what++) {
            due("count " + what, x.count(what), 0);
        }
        due("its tape", x.end(1), false);
    }

    static void promise02TheLastFeedThatThereIsRoomFor() {
        RainbowPlate x = new RainbowPlate();
        for (int n = 1; n <= 20; n++) {
            due("feed " + n, x.feed(n, n, n, n, n), 20 * n);
        }
        due("feed 21", x.feed(0, 0, 0, 0, 0), -1);
        due("feed 22", x.feed(0, 0, 0, 0, 0), -1);
    }

    /** A right text of 3 bytes and blanks behind it. */
    private static RainbowPlate blanksTo(int length) {
        RainbowPlate x = new RainbowPlate();
        Checks.put(x, "1<2" + " ".repeat(length - 3));
        return x;
    }

    static void promise02FeedOntoARowOf380() {
        due("to 400", blanksTo(380).feed(0, 0, 0, 0, 0), 400);
    }

    static void promise02FeedOntoARowOf381() {
        due("to 401", blanksTo(381).feed(0, 0, 0, 0, 0), -1);
    }

    static void promise02NoneComeWhereThereIsNoRoom() {
        for (int length : new int[] {381, 399, 400}) {
            RainbowPlate x = blanksTo(length);
            due("feed onto " + length, x.feed(-1, -1, -1, -1, -1), -1);
            due("no byte more than " + length, x.end(length + 1), false);
            due("no byte fewer than " + length, x.end(length), true);
            due("the text of " + length + " is right still", x.claim(), 0);
        }
    }

    static void promise02OfEachNumberTheHighestByteComesFirst() {
        for (int wrong = 0; wrong < 20; wrong++) {
            int[] five = {0x20202020, 0x20202020, 0x20202020, 0x20202020, 0x20202020};
            five[wrong / 4] |= 0x58 << 24 - wrong % 4 * 8;
            RainbowPlate x = new RainbowPlate();
            x.feed(five[0], five[1], five[2], five[3], five[4]);
            thrown("a wrong byte " + wrong, ILLEGAL, x::claim);
            due("is found there", x.fault(), wrong);
        }
    }

    static void promise02BytesAbove127() {
        int[] numbers = {0xFF202020, 0x20FF2020, 0x2020FF20, 0x202020FF};
        for (int n = 0; n < 4; n++) {
            RainbowPlate x = new RainbowPlate();
            x.feed(0x313C3220, numbers[n], 0x20202020, 0x20202020, 0x20202020);
            thrown("byte 255", ILLEGAL, x::claim);
            due("is found there", x.fault(), 4 + n);
        }
    }

    static void promise02TwentyBytesComeBehindTheTape() {
        RainbowPlate x = new RainbowPlate();
        Checks.put(x, "1<");
        due("twenty behind two", x.feed(0x32202020, 0x20202020, 0x20202020, 0x20202020, 0x20202020), 22);
        due("one text", x.claim(), 0);
    }

    static void promise02ATapeThatWasUsedUpHasRoomAgain() {
        RainbowPlate x = blanksTo(400);
        x.claim();
        due("feed", x.feed(0, 0, 0, 0, 0), 20);
    }

    static void promise03NoneAtAll() {
        RainbowPlate x = new RainbowPlate();
        due("0 of an empty one", x.end(0), true);
        x.feed(0, 0, 0, 0, 0);
        due("0 of twenty", x.end(0), true);
        due("it is empty", x.feed(0, 0, 0, 0, 0), 20);
    }

    static void promise03AsManyAsThereAre() {
        RainbowPlate x = blanksTo(400);
        due("400 of 400", x.end(400), true);
        due("401 of 400", x.end(401), false);
        due("all are there", x.end(400), true);
    }

    static void promise03FewerThanAskedFor() {
        RainbowPlate x = new RainbowPlate();
        x.feed(0, 0, 0, 0, 0);
        due("21 of 20", x.end(21), false);
        due("the most", x.end(Integer.MAX_VALUE), false);
        due("nothing happened", x.feed(0, 0, 0, 0, 0), 40);
    }

    static void promise03Below0() {
        RainbowPlate x = blanksTo(20);
        due("-1", x.end(-1), false);
        due("the least", x.end(Integer.MIN_VALUE), false);
        due("nothing happened", x.end(20), true);
        due("to the text either", x.claim(), 0);
    }

    static void promise03OnlyTheFirstBytesStay() {
        RainbowPlate x = new RainbowPlate();
        Checks.put(x, "1<2 xyz");
        due("3 of 7", x.end(3), true);
        due("the others do not come back", x.end(4), false);
        due("what stays is right", x.claim(), 0);
    }

    static void promise04PeriodFrom2To50() {
        RainbowPlate x = new RainbowPlate();
        x.screw(2, 9, 1, 9);
        due("2", x.truly(0, false) * 1000 + x.truly(1, false), -9 * 1000 + 10);
        x.screw(50, 9, 49, 9);
        due("50", x.truly(49, false), 58);
        for (int period : Checks.outside(2, 50)) {
            refused("period " + period, ILLEGAL, y -> y.screw(period, 0, 0, 0));
        }
        refused("period 0", ILLEGAL, y -> y.screw(0, 0, 0, 0));
    }

    static void promise04WearFrom0To9() {
        RainbowPlate x = new RainbowPlate();
        x.screw(10, 9, 0, 0);
        due("9", x.truly(0, false), 9);
        x.screw(10, 0, 0, 0);
        due("0", x.truly(0, false), 0);
        for (int wear : Checks.outside(0, 9)) {
            refused("wear " + wear, ILLEGAL, y -> y.screw(10, wear, 0, 0));
        }
    }

    static void promise04PhaseFrom0ToPeriodLess1() {
        for (int period : new int[] {2, 3, 10, 50}) {
            RainbowPlate x = new RainbowPlate();
            x.screw(period, 5, 0, 0);
            due("0 of " + period, x.truly(0, false), 5);
            x.screw(period, 5, period - 1, 0);
            due("the last of " + period, x.truly(period - 1, false), period + 4);
            for (int phase : Checks.outside(0, period - 1)) {
                refused("phase " + phase + " of " + period, ILLEGAL, y -> y.screw(period, 0, phase, 0));
            }
        }
    }

    static void promise04LagFrom0To9() {
        RainbowPlate x = new RainbowPlate();
        x.screw(10, 0, 0, 9);
        due("9", x.truly(0, true), 9);
        x.screw(10, 0, 0, 0);
        due("0", x.truly(0, true), 0);
        for (int lag : Checks.outside(0, 9)) {
            refused("lag " + lag, ILLEGAL, y -> y.screw(10, 0, 0, lag));
        }
    }

    static void promise04TheScrewIsOfAllThatComesBehind() {
        RainbowPlate x = Make.exact();
        x.plate(1, 1, 1000, 9999, 0);
        x.reading(0, 200, true, 1, 1);
        x.screw(10, 3, 1, 4);
        due("a reading that was there", x.look(0, 5), 200 - 3 + 4);
        // at -3 and 97 now: B 50 with C 0 or 1 and A 1015, or C -1 and A 1016; 102 is at 105
        due("known lines that were there", x.laws(), 3);
        due("the least at 105", x.span(102, false, false), 1016 + 523);
        due("the greatest at 105", x.span(102, false, true), 1015 + 526);
    }

    static void promise05PlaceFrom0To999() {
        RainbowPlate x = new RainbowPlate();
        due("0", x.truly(0, false), 0);
        due("999", x.truly(999, true), 999);
        for (int place : Checks.outside(0, 999)) {
            refused("place " + place, ILLEGAL, y -> y.truly(place, false));
            refused("place " + place + " down", ILLEGAL, y -> y.truly(place, true));
        }
    }

    static void promise05BelowHalfOfAnEvenPeriod() {
        RainbowPlate x = new RainbowPlate();
        x.screw(10, 1, 0, 0);
        due("4 is below 5", x.truly(204, false), 205);
        due("5 is not", x.truly(205, false), 204);
        due("9 is not", x.truly(209, false), 208);
        due("10 is 0", x.truly(210, false), 211);
    }

    static void promise05HalfOfAnOddPeriodIsRoundedDown() {
        RainbowPlate x = new RainbowPlate();
        x.screw(3, 1, 0, 0);
        due("0 of 3", x.truly(300, false), 301);
        due("1 of 3", x.truly(301, false), 300);
        due("2 of 3", x.truly(302, false), 301);
        x.screw(49, 1, 0, 0);
        due("23 of 49", x.truly(23, false), 24);
        due("24 of 49", x.truly(24, false), 23);
    }

    static void promise05AheadOfThePhaseTheModuloGoesRound() {
        RainbowPlate x = new RainbowPlate();
        x.screw(10, 1, 6, 0);
        // 0 less 6 is 4 modulo 10, 1 less 6 is 5, 5 less 6 is 9
        due("0", x.truly(0, false), 1);
        due("1", x.truly(1, false), 0);
        due("5", x.truly(5, false), 4);
        due("6", x.truly(6, false), 7);
    }

    static void promise05TruePlacesMayLieBeyondTheEnds() {
        RainbowPlate x = new RainbowPlate();
        x.screw(2, 9, 1, 9);
        due("below 0", x.truly(0, false), -9);
        due("0 down", x.truly(0, true), 0);
        due("above 999", x.truly(999, true), 1017);
    }

    static void promise06PlacesFrom0To999() {
        RainbowPlate x = new RainbowPlate();
        due("0 and 999", x.gauge(0, false, 999, true, 999), 1);
        due("999 and 0", x.gauge(999, true, 0, false, 999), 2);
        for (int place : Checks.outside(0, 999)) {
            refused("first " + place, ILLEGAL, y -> y.gauge(place, false, 0, false, 0));
            refused("second " + place, ILLEGAL, y -> y.gauge(0, false, place, false, 0));
        }
    }

    static void promise06ApartFrom0To1200() {
        RainbowPlate x = new RainbowPlate();
        due("0", x.gauge(0, false, 0, false, 0), 1);
        due("1200", x.gauge(0, false, 0, false, 1200), 2);
        for (int apart : Checks.outside(0, 1200)) {
            refused("apart " + apart, ILLEGAL, y -> y.gauge(0, false, 0, false, apart));
        }
    }

    static void promise06ThereIsRoomFor8() {
        RainbowPlate x = new RainbowPlate();
        for (int n = 1; n <= 8; n++) {
            due("gauge " + n, x.gauge(0, false, 0, false, 0), n);
        }
        refusedByFull("the 9th", FULL, y -> y.gauge(0, false, 0, false, 0));
    }

    static void promise06ANumberThatIsNoneIsToldAheadOfNoRoom() {
        refusedByFull("apart", ILLEGAL, y -> y.gauge(0, false, 0, false, 1201));
        refusedByFull("first", ILLEGAL, y -> y.gauge(-1, false, 0, false, 0));
        refusedByFull("second", ILLEGAL, y -> y.gauge(0, false, 1000, false, 0));
    }

    static void promise07WithoutGaugesAllAreFits() {
        RainbowPlate x = new RainbowPlate();
        x.screw(2, 0, 0, 0);
        due("period 2", x.fits(), 10 + 9 * 10 * 2);
        x.screw(50, 0, 0, 0);
        due("period 50", x.fits(), 10 + 9 * 10 * 50);
    }

    static void promise07To1TickMoreOrLess() {
        // 100 and 110 are a whole period from one another, so that wear is nothing to them
        int[] apart = {8, 9, 10, 11, 12};
        int[] fits = {0, 910, 910, 910, 0};
        for (int n = 0; n < apart.length; n++) {
            RainbowPlate x = new RainbowPlate();
            x.gauge(100, false, 110, false, apart[n]);
            due("apart " + apart[n], x.fits(), fits[n]);
            RainbowPlate y = new RainbowPlate();
            y.gauge(110, true, 100, true, apart[n]);
            due("the other way, both down, " + apart[n], y.fits(), fits[n]);
        }
    }

    static void promise07HowFarIsNeverBelow0() {
        RainbowPlate x = new RainbowPlate();
        x.gauge(100, false, 100, true, 0);
        due("lags of 0 and 1", x.fits(), 2 + 2 * 9 * 10);
        RainbowPlate y = new RainbowPlate();
        y.gauge(105, false, 100, true, 1);
        // 5 less the lag is 2 to -2 for lags 3 to 7, where wear is 0
        due("the least is 0 from one another", y.fit(0), 300);
        due("the greatest", y.fit(4), 700);
        due("then comes wear 1", y.fit(5) / 1000, 1);
    }

    static void promise07OfWear0OnlyPhase0Counts() {
        RainbowPlate x = new RainbowPlate();
        for (int lag = 0; lag <= 9; lag++) {
            due("lag " + lag, x.fit(lag), 100 * lag);
        }
        due("then wear 1", x.fit(10), 1000);
    }

    static void promise07AllGaugesMustBeSo() {
        RainbowPlate x = new RainbowPlate();
        x.gauge(100, false, 110, false, 10);
        x.gauge(100, false, 110, false, 12);
        due("one is not", x.fits(), 0);
        RainbowPlate y = new RainbowPlate();
        for (int n = 0; n < 7; n++) {
            y.gauge(100, false, 110, false, 10);
        }
        y.gauge(100, false, 110, false, 12);
        due("the 8th is not", y.fits(), 0);
    }

    static void promise07ThePeriodAsItIs() {
        RainbowPlate x = new RainbowPlate();
        x.gauge(100, false, 105, false, 23);
        // half a period of 10: 5 and 18 by wear 9, where 105 has more and 100 less
        due("wear 9, five phases, ten lags", x.fits(), 5 * 10);
        x.screw(5, 0, 0, 0);
        due("a whole period of 5", x.fits(), 0);
    }

    static void promise08FromTheFirstToTheLast() {
        RainbowPlate x = new RainbowPlate();
        due("0", x.fit(0), 0);
        due("909", x.fit(909), 9909);
        due("910", x.fit(910), -1);
        due("-1", x.fit(-1), -1);
        due("the least number", x.fit(Integer.MIN_VALUE), -1);
        due("the greatest number", x.fit(Integer.MAX_VALUE), -1);
    }

    static void promise08WithoutAnyFit() {
        RainbowPlate x = new RainbowPlate();
        x.gauge(0, false, 0, false, 1200);
        due("0", x.fit(0), -1);
        due("-1", x.fit(-1), -1);
    }

    static void promise08InOrderByWearThenLagThenPhase() {
        RainbowPlate x = new RainbowPlate();
        x.screw(50, 0, 0, 0);
        due("the last of wear 0", x.fit(9), 900);
        due("the first of wear 1", x.fit(10), 1000);
        due("its last phase", x.fit(59), 1049);
        due("its next lag", x.fit(60), 1100);
        due("its last", x.fit(509), 1949);
        due("the first of wear 2", x.fit(510), 2000);
        due("the last", x.fit(4509), 9949);
        due("one more", x.fit(4510), -1);
    }

    static void promise09ErrorFrom0To50() {
        RainbowPlate x = new RainbowPlate();
        x.error(0);
        due("0", x.count(8), 0);
        x.error(50);
        due("50", x.count(8), 50);
        for (int error : Checks.outside(0, 50)) {
            refused("error " + error, ILLEGAL, y -> y.error(error));
        }
    }

    static void promise10PlaceFrom0To999() {
        RainbowPlate x = new RainbowPlate();
        due("0", x.known(0, false, 5000, false), 1);
        due("999", x.known(999, true, 5000, true), 2);
        for (int place : Checks.outside(0, 999)) {
            refused("place " + place, ILLEGAL, y -> y.known(place, false, 5000, false));
        }
    }

    static void promise10WaveFrom1000To9999() {
        RainbowPlate x = new RainbowPlate();
        due("1000", x.known(0, false, 1000, false), 1);
        due("9999", x.known(0, false, 9999, false), 2);
        for (int wave : Checks.outside(1000, 9999)) {
            refused("wave " + wave, ILLEGAL, y -> y.known(0, false, wave, false));
        }
    }

    static void promise10ThereIsRoomFor10() {
        RainbowPlate x = new RainbowPlate();
        for (int n = 1; n <= 10; n++) {
            due("known " + n, x.known(n, false, 5000, false), n);
        }
        refusedByFull("the 11th", FULL, y -> y.known(0, false, 5000, false));
    }

    static void promise10ANumberThatIsNoneIsToldAheadOfNoRoom() {
        refusedByFull("place", ILLEGAL, y -> y.known(1000, false, 5000, false));
        refusedByFull("wave", ILLEGAL, y -> y.known(0, false, 999, false));
    }

    static void promise10TheTenthCountsToo() {
        RainbowPlate x = new RainbowPlate();
        x.error(0);
        for (int n = 0; n < 9; n++) {
            x.known(0, false, 5000, false);
        }
        due("nine alike", x.laws(), 90 * 19);
        x.known(0, false, 5001, false);
        due("the tenth is otherwise", x.laws(), 0);
    }

    /** Known lines at 0 and 100, so that 10 B and C are the rise and A is 5000. */
    private static RainbowPlate rising(int rise) {
        RainbowPlate x = new RainbowPlate();
        x.error(0);
        x.known(0, false, 5000, false);
        x.known(100, false, 5000 + rise, false);
        return x;
    }

    static void promise11WithoutKnownLinesAllHold() {
        due("10000 times 90 times 19", new RainbowPlate().laws(), 17100000);
    }

    static void promise11BFrom1() {
        due("B 1, C -9", rising(1).laws(), 1);
        due("B would be 0", rising(0).laws(), 0);
    }

    static void promise11BTo90() {
        due("B 90, C 9", rising(909).laws(), 1);
        due("B would be 91", rising(910).laws(), 0);
    }

    static void promise11CFromMinus9To9() {
        due("C 9, or B one more and C -1", rising(19).laws(), 2);
        due("C 1, or B one more and C -9", rising(11).laws(), 2);
        due("C 0 alone: not 10 and not -10", rising(20).laws(), 1);
    }

    static void promise11AFrom0() {
        for (int a = -1; a <= 0; a++) {
            RainbowPlate x = new RainbowPlate();
            x.error(0);
            x.known(112, false, 1008 + a, false);
            x.known(500, false, 4500 + a, false);
            x.known(900, false, 8100 + a, false);
            due("9 for each tick and " + a, x.laws(), a == 0 ? 1 : 0);
        }
    }

    static void promise11ATo9999() {
        RainbowPlate x = new RainbowPlate();
        x.error(0);
        x.known(0, false, 9999, false);
        due("9999 at 0", x.laws(), 90 * 19);
        x.screw(2, 9, 1, 0);
        // at -9 each law is 1 below its A at least
        due("9999 at -9", x.laws(), 0);
        x.error(1);
        due("9998 at -9, by A 9999 and B 1", x.laws(), 19);
        due("its A", x.law(0), 9999);
    }

    static void promise11OffByErrorAtMost() {
        RainbowPlate x = new RainbowPlate();
        x.known(0, false, 5000, false);
        x.known(0, false, 5004, false);
        due("A 5002 is 2 off both", x.laws(), 90 * 19);
        x.known(0, false, 5005, false);
        due("none is 2 off all three", x.laws(), 0);
        x.error(3);
        due("A 5002 and 5003", x.laws(), 2 * 90 * 19);
        x.error(50);
        due("A 4955 to 5050", x.laws(), 96 * 90 * 19);
    }

    static void promise11TheWaveIsRoundedDownAbove0() {
        RainbowPlate x = new RainbowPlate();
        x.error(0);
        x.known(0, false, 5000, false);
        x.known(1, false, 5001, false);
        // 1000 B and C from 10000 to 19999: B 10 with C from 0 on, 11 to 19, and 20 with C below 0
        due("1 more at 1", x.laws(), 10 + 9 * 19 + 9);
    }

    static void promise11TheWaveIsRoundedDownBelow0() {
        RainbowPlate x = new RainbowPlate();
        x.error(0);
        x.screw(2, 1, 1, 0);
        // true places -1 and 2: of (- 1000 B and C) by 10000 each is below 0, so that -1 is the nearest
        x.known(0, false, 5000, false);
        x.known(1, false, 5001, false);
        // -1 at -1: B 1 to 9 and 10 with C from 0 on; then 0 at 2: B 1 to 4, and 5 with C below 0
        due("-1 and 0", x.laws(), 4 * 19 + 9);
        due("A", x.law(0), 5001);
    }

    static void promise11NoneHolds() {
        RainbowPlate x = new RainbowPlate();
        x.known(0, false, 1000, false);
        x.known(0, false, 9999, false);
        due("laws", x.laws(), 0);
    }

    static void promise11KnownLinesOfTheSparkCountWhereTheyAre() {
        RainbowPlate x = Make.exact();
        x.known(300, false, 2500, true);
        due("as it is", x.laws(), 1);
        x.known(300, false, 2505, true);
        due("1 tick off", x.laws(), 0);
    }

    static void promise11KnownLinesMayBeTurnedDown() {
        RainbowPlate x = Make.exact();
        x.screw(10, 0, 0, 9);
        x.known(300, true, 2545, false);
        due("with a lag of 9", x.laws(), 1);
        x.known(300, false, 2545, false);
        due("turned up", x.laws(), 0);
    }

    static void promise12WhatFrom0To2() {
        RainbowPlate x = Make.exact();
        due("A", x.law(0), 1000);
        due("B", x.law(1), 50);
        due("C", x.law(2), 0);
        for (int what : Checks.outside(0, 2)) {
            refused("what " + what, NO_SUCH, y -> y.law(what));
            Checks.refused("what " + what + " without a law", NO_SUCH, Make::lawless, y -> y.law(what));
        }
    }

    static void promise12WithoutALaw() {
        RainbowPlate x = Make.lawless();
        for (int what = 0; what < 3; what++) {
            due("what " + what, x.law(what), 99999);
        }
    }

    static void promise12TheFirstIsByBThenCThenA() {
        RainbowPlate x = rising(15);
        due("B 1 ahead of 2", x.law(1), 1);
        due("with its C", x.law(2), 5);
        RainbowPlate y = new RainbowPlate();
        y.known(0, false, 5000, false);
        due("the least A", y.law(0), 4998);
        due("the least B", y.law(1), 1);
        due("the least C", y.law(2), -9);
        RainbowPlate all = new RainbowPlate();
        due("A of all", all.law(0), 0);
        RainbowPlate c = new RainbowPlate();
        c.error(1);
        c.known(0, false, 5000, false);
        c.known(100, false, 5014, false);
        // a rise of 12 to 16 by B 1: C 2 has A 5001 alone, C 3 has A 5000 too
        due("the least C of B 1", c.law(2), 2);
        due("its least A ", c.law(0), 5001);
    }

    static void promise13PlaceFrom0To999() {
        RainbowPlate x = Make.exact();
        due("0", x.span(0, false, false), 1000);
        due("999", x.span(999, true, true), 5995);
        for (int place : Checks.outside(0, 999)) {
            refused("least at " + place, ILLEGAL, y -> y.span(place, false, false));
            refused("greatest at " + place, ILLEGAL, y -> y.span(place, true, true));
            Checks.refused("without a law at " + place, ILLEGAL, Make::lawless, y -> y.span(place, true, true));
        }
    }

    static void promise13WithoutALaw() {
        RainbowPlate x = Make.lawless();
        due("least", x.span(0, false, false), -99999);
        due("greatest", x.span(999, true, true), -99999);
    }

    static void promise13LessErrorAndErrorMore() {
        RainbowPlate x = new RainbowPlate();
        x.known(0, false, 5000, false);
        due("A 4998 less 2", x.span(0, false, false), 4996);
        due("A 5002 and 2", x.span(0, false, true), 5004);
        x.error(50);
        due("4950 less 50", x.span(0, false, false), 4900);
        due("5050 and 50", x.span(0, false, true), 5100);
        x.error(0);
        due("least is the greatest", x.span(0, false, true) - x.span(0, false, false), 0);
    }

    static void promise13AllLawsCount() {
        RainbowPlate x = new RainbowPlate();
        x.error(0);
        x.known(0, false, 5000, false);
        // at 999: B 1, C -9: (999000 - 8982009) by 10000 is -799; B 90, C 9: (89910000 + 8982009) is 9889
        due("least at 999", x.span(999, false, false), 5000 - 799);
        due("greatest at 999", x.span(999, false, true), 5000 + 9889);
    }

    static void promise13TheTruePlaceMayLieBeyondTheEnds() {
        RainbowPlate x = new RainbowPlate();
        x.error(0);
        x.screw(2, 9, 1, 9);
        // -9: B 90, C -9: (- 810000 - 729) by 10000 is -82; 1017: B 90, C 9: (91530000 + 9308601) is 10083
        due("-9", x.span(0, false, false), -82);
        due("1017", x.span(999, true, true), 9999 + 10083);
    }

    static void promise13WavesBelow0() {
        RainbowPlate x = new RainbowPlate();
        x.error(0);
        x.screw(2, 9, 1, 0);
        // true places 121, 491 and 891: 9 for each tick and A 0
        x.known(130, false, 1089, false);
        x.known(500, false, 4419, false);
        x.known(900, false, 8019, false);
        due("one law", x.laws(), 1);
        due("least at -9", x.span(0, false, false), -81);
        due("greatest at -9", x.span(0, false, true), -81);
    }

    static void promise14NothingKnown() {
        due("0", new RainbowPlate().slipped(), 0);
    }

    private static int slippedTo(int wave) {
        RainbowPlate x = Make.exact();
        x.known(200, false, wave, true);
        return x.slipped();
    }

    static void promise14FromMinus30To30() {
        due("30 more", slippedTo(2150), 30);
        due("31 more", slippedTo(2155), 99);
        due("30 less", slippedTo(1850), -30);
        due("31 less", slippedTo(1845), 99);
        due("none", slippedTo(2000), 0);
        due("between two ticks", slippedTo(2003), 99);
    }

    static void promise14OfTwoTheLowerOne() {
        RainbowPlate x = new RainbowPlate();
        x.error(0);
        x.known(990, false, 5000, false);
        x.known(990, false, 5001, true);
        // laws that rise there slip up by 1, those that fall there slip down by 1
        due("-1 and 1", x.slipped(), -1);
    }

    static void promise14ThatNearestTo0() {
        RainbowPlate x = new RainbowPlate();
        x.error(2);
        x.known(0, false, 1000, false);
        x.known(100, false, 1500, false);
        x.known(500, false, 3500, false);
        x.known(999, false, 5995, false);
        x.known(200, false, 2020, true);
        // 2018 by an error of 2: 4 ticks are 20, and all laws that hold lie within 2 of one another
        int nearest = x.slipped();
        due("above 0", nearest > 0, true);
        due("4 at most", nearest <= 4, true);
        x.known(200, false, 2020, false);
        due("a known line that is not of the spark stays", x.slipped(), 99);
    }

    static void promise14OnlyTheSparkSlips() {
        RainbowPlate x = Make.exact();
        x.known(200, false, 2005, false);
        due("no spark", x.slipped(), 99);
        RainbowPlate y = Make.exact();
        y.known(200, false, 2005, false);
        y.known(200, false, 2005, true);
        due("a spark that would", y.slipped(), 99);
    }

    static void promise14AllOfTheSparkSlipAlike() {
        RainbowPlate x = Make.exact();
        x.known(200, false, 2010, true);
        x.known(300, false, 2510, true);
        due("2 and 2", x.slipped(), 2);
        x.known(400, false, 3015, true);
        due("and 3", x.slipped(), 99);
    }

    static void promise14LawsWithinTheirBoundsOnly() {
        due("B 1, C -9", rising(1).slipped(), 0);
        due("B would be 0", rising(0).slipped(), 99);
        due("B 90, C 9", rising(909).slipped(), 0);
        due("B would be 91", rising(910).slipped(), 99);
    }
}
