/** Each promise of the document by its number: ordinary inputs, edges and wrong inputs. */
public final class PromisesTest extends Edges {
    public static void main(String[] args) {
        newObject();
        tape();
        screwAndGauges();
        lawsAndSpans();
        slips();
        tables();
        platesAndReadings();
        ghosts();
        sets();
        speeds();
        amounts();
        wide();
        rows();
        sums();
        next();
        misprints();
        alike();
        stars();
        drift();
        makers();
        grainAndNear();
        claims();
        claimFaults();
        claimValues();
        image();
        counts();
        Checks.finish("PromisesTest");
    }

    // Promise 1
    private static void newObject() {
        RainbowPlate x = new RainbowPlate();
        due("NONE", RainbowPlate.NONE, -1);
        int[] want = {0, 0, 0, 0, 0, 0, 0, 0, 2, 0, 0};
        for (int what = 0; what < want.length; what++) {
            due("new count(" + what + ")", x.count(what), want[what]);
        }
        due("new fault", x.fault(), -1);
        due("new back", x.back(), false);
        due("new away", x.away(), -1);
        due("new truly up", x.truly(17, false), 17);
        due("new truly down", x.truly(17, true), 17);
        due("new fits: the period is 10", x.fits(), 910);
        due("the first fit", x.fit(0), 0);
        due("new tape is empty", x.end(1), false);
        due("new end(0)", x.end(0), true);
    }

    // Promises 2, 3
    private static void tape() {
        RainbowPlate x = new RainbowPlate();
        for (int n = 1; n <= 20; n++) {
            due("feed " + n, x.feed(0, 0, 0, 0, 0), 20 * n);
        }
        due("feed beyond 400", x.feed(0, 0, 0, 0, 0), -1);
        due("nothing came", x.end(401), false);
        due("all 400 stay", x.end(400), true);
        due("end(-1)", x.end(-1), false);
        due("end(381)", x.end(381), true);
        due("feed at 381", x.feed(0, 0, 0, 0, 0), -1);
        due("end(380)", x.end(380), true);
        due("feed at 380", x.feed(0, 0, 0, 0, 0), 400);
        due("end(3)", x.end(3), true);
        due("end above what is there", x.end(4), false);
        due("feed at 3", x.feed(0, 0, 0, 0, 0), 23);
        x = new RainbowPlate();
        // "9 > 8 and 7 > 6 or " and 1 more: the highest byte of each number first
        due("feed a text", x.feed(0x39203E20, 0x3820616E, 0x64203720, 0x3E203620, 0x6F722031), 20);
        x.feed(0x203E2039, 0, 0, 0, 0);
        due("end of the text", x.end(24), true);
        x.plate(1, 1, 1000, 1000, 0);
        due("its claim", x.claim(), 0);
        due("it holds", x.holds(0, 0), true);
        due("the tape is used up", x.end(1), false);
        RainbowPlate y = new RainbowPlate();
        y.feed(0x312D2D2D, 0, 0, 0, 0);
        thrown("a wrong text", ILLEGAL, y::claim);
        due("the tape is used up by it too", y.end(1), false);
    }

    // Promises 4 to 8
    private static void screwAndGauges() {
        RainbowPlate x = new RainbowPlate();
        x.screw(2, 9, 1, 9);
        due("even of period 2 phase 1", x.truly(0, false), -9);
        due("odd of period 2 phase 1", x.truly(1, false), 10);
        due("down", x.truly(999, true), 999 + 9 + 9);
        x.screw(50, 1, 49, 0);
        due("phase 49 of 50", x.truly(49, false), 50);
        due("24 behind", x.truly(73, false), 74);
        due("25 behind", x.truly(74, false), 73);
        due("ahead of the phase", x.truly(48, false), 47);
        due("0 less 49 modulo 50 is 1", x.truly(0, false), 1);
        x.screw(5, 2, 0, 3);
        due("half of 5 is 2: 1", x.truly(1, false), 3);
        due("half of 5 is 2: 2", x.truly(2, false), 0);
        due("2 down", x.truly(2, true), 3);
        int[][] wrong = {{1, 0, 0, 0}, {51, 0, 0, 0}, {10, -1, 0, 0}, {10, 10, 0, 0}, {10, 0, -1, 0}, {10, 0, 10, 0},
            {10, 0, 0, -1}, {10, 0, 0, 10}, {2, 0, 2, 0}};
        for (int[] w : wrong) {
            thrown("screw " + java.util.Arrays.toString(w), ILLEGAL, () -> x.screw(w[0], w[1], w[2], w[3]));
        }
        due("a screw that is none changes nothing", x.truly(2, true), 3);
        thrown("truly(-1)", ILLEGAL, () -> x.truly(-1, false));
        thrown("truly(1000)", ILLEGAL, () -> x.truly(1000, false));

        RainbowPlate g = new RainbowPlate();
        thrown("gauge first", ILLEGAL, () -> g.gauge(-1, false, 0, false, 0));
        thrown("gauge first above", ILLEGAL, () -> g.gauge(1000, false, 0, false, 0));
        thrown("gauge second", ILLEGAL, () -> g.gauge(0, false, -1, false, 0));
        thrown("gauge second above", ILLEGAL, () -> g.gauge(0, false, 1000, false, 0));
        thrown("gauge apart", ILLEGAL, () -> g.gauge(0, false, 0, false, -1));
        thrown("gauge apart above", ILLEGAL, () -> g.gauge(0, false, 0, false, 1201));
        due("none of them came", g.count(0), 0);
        due("first gauge", g.gauge(10, true, 10, false, 6), 1);
        due("lag 5 to 7", g.fits(), 3 + 3 * 9 * 10);
        due("fit 0: wear 0, lag 5", g.fit(0), 500);
        due("fit 2: wear 0, lag 7", g.fit(2), 700);
        due("fit 3: wear 1, lag 5, phase 0", g.fit(3), 1500);
        due("fit 4: phase 1", g.fit(4), 1501);
        due("fit 13: lag 6", g.fit(13), 1600);
        due("the last fit", g.fit(272), 9709);
        due("one more", g.fit(273), -1);
        due("fit -1", g.fit(-1), -1);
        due("second one goes down", g.gauge(0, false, 0, true, 7), 2);
        due("lag 6 and 7", g.fits(), 2 + 2 * 9 * 10);
        g.screw(4, 9, 3, 9);
        due("period 4, what else the screw has does not count", g.fits(), 2 + 2 * 9 * 4);
        due("last phase is 3", g.fit(2 + 3), 1603);
        // 100 and 102 are half a period of 4 apart: 2 and 2 wear more, or less
        due("third", g.gauge(100, false, 102, false, 20), 3);
        due("wear 8 to 9, where 102 has more and 100 less: 2 + 16, 2 + 18; wear 9 alone", g.fits(), 2 * 2);
        due("phases 1 and 2 have 102 in the early half", g.fit(0), 9601);
        due("and 2", g.fit(1), 9602);
        due("gauge of the most", g.gauge(0, false, 999, false, 1200), 4);
        due("nothing fits", g.fits(), 0);
        due("no fit", g.fit(0), -1);
        for (int n = 5; n <= 8; n++) {
            due("gauge " + n, g.gauge(0, false, 0, false, 0), n);
        }
        thrown("a wrong 9th", ILLEGAL, () -> g.gauge(0, false, 0, false, 1201));
        thrown("a 9th", FULL, () -> g.gauge(0, false, 0, false, 0));
        due("8 stay", g.count(0), 8);

        RainbowPlate all = new RainbowPlate();
        all.screw(3, 0, 0, 0);
        int at = 0;
        for (int wear = 0; wear <= 9; wear++) {
            for (int lag = 0; lag <= 9; lag++) {
                for (int phase = 0; phase < (wear == 0 ? 1 : 3); phase++) {
                    due("fit " + at + " of all", all.fit(at), 1000 * wear + 100 * lag + phase);
                    at++;
                }
            }
        }
        due("no more", all.fit(at), -1);
        RainbowPlate lags = new RainbowPlate();
        lags.gauge(100, true, 110, false, 5);
        due("a lag of 4 to 6 brings 100 nearer to 110", lags.fit(0), 400);
        RainbowPlate others = new RainbowPlate();
        others.gauge(110, false, 100, true, 5);
        due("as the second one too", others.fit(0), 400);
    }

    // Promises 9 to 13
    private static void lawsAndSpans() {
        RainbowPlate x = new RainbowPlate();
        thrown("error(-1)", ILLEGAL, () -> x.error(-1));
        thrown("error(51)", ILLEGAL, () -> x.error(51));
        x.error(50);
        due("error 50", x.count(8), 50);
        due("all laws", x.laws(), 17100000);
        due("span of all at 0", x.span(0, false, false), -50);
        due("and above", x.span(0, false, true), 9999 + 50);
        // at 100: B 90, C 9: 900 + 9; B 1, C -9: 10 - 9
        due("least at 100", x.span(100, false, false), 1 - 50);
        due("greatest at 100", x.span(100, false, true), 9999 + 909 + 50);
        x.screw(10, 0, 0, 9);
        x.error(0);
        // at 9: B 1, C -9: (9000 - 729) by 10000 is 0; B 90, C 9: (810000 + 729) by 10000 is 81
        due("least at 9", x.span(0, true, false), 0);
        due("greatest at 9", x.span(0, true, true), 9999 + 81);
        x.screw(10, 9, 5, 0);
        // at -9: B 90, C -9: (-810000 - 729) by 10000, rounded down, is -82; B 1, C 9: (-9000 + 729) is -1
        due("least at -9", x.span(0, false, false), -82);
        due("greatest at -9", x.span(0, false, true), 9999 - 1);
        thrown("span(-1)", ILLEGAL, () -> x.span(-1, false, false));
        thrown("span(1000)", ILLEGAL, () -> x.span(1000, false, false));
        thrown("law(-1)", NO_SUCH, () -> x.law(-1));
        thrown("law(3)", NO_SUCH, () -> x.law(3));

        RainbowPlate k = new RainbowPlate();
        thrown("known place", ILLEGAL, () -> k.known(-1, false, 1000, false));
        thrown("known place above", ILLEGAL, () -> k.known(1000, false, 1000, false));
        thrown("known wave", ILLEGAL, () -> k.known(0, false, 999, false));
        thrown("known wave above", ILLEGAL, () -> k.known(0, false, 10000, false));
        due("none came", k.count(1), 0);
        due("a known line", k.known(0, false, 9999, false), 1);
        due("A 9997 to 9999 by error 2", k.laws(), 3 * 90 * 19);
        due("first A", k.law(0), 9997);
        due("first B", k.law(1), 1);
        due("first C", k.law(2), -9);
        k.error(0);
        due("A 9999", k.laws(), 90 * 19);
        due("a second", k.known(1, false, 9999, false), 2);
        // at 1: (1000 B + C) by 10000: 0 for B 1 to 9 and B 10 with C below 0
        due("rounded down", k.laws(), 9 * 19 + 9);
        due("a third", k.known(999, false, 9999, true), 3);
        // 999 (1000 B + 999 C) by 10000: 0 to below 1: B + 0.999 C from 0 to below 0.01001
        // B 9, C -9: 9 - 8.991 = 0.009; likewise each B with C = -B
        due("only where the bend undoes the slope", k.laws(), 9);
        due("first A of these", k.law(0), 9999);
        due("first B of these", k.law(1), 1);
        due("first C of these", k.law(2), -1);
        k.known(500, false, 1000, false);
        due("none holds", k.laws(), 0);
        due("no A", k.law(0), 99999);
        due("no B", k.law(1), 99999);
        due("no C", k.law(2), 99999);
        due("no least", k.span(0, false, false), -99999);
        due("no greatest", k.span(0, false, true), -99999);
        thrown("law(3) of none", NO_SUCH, () -> k.law(3));
        for (int n = 5; n <= 10; n++) {
            due("known " + n, k.known(0, false, 1000, false), n);
        }
        thrown("a wrong 11th", ILLEGAL, () -> k.known(0, false, 999, false));
        thrown("an 11th", FULL, () -> k.known(0, false, 1000, false));
        due("10 stay", k.count(1), 10);

        RainbowPlate s = Make.exact();
        due("one law", s.laws(), 1);
        due("its A", s.law(0), 1000);
        due("its B", s.law(1), 50);
        due("its C", s.law(2), 0);
        due("span of 999", s.span(999, false, false), 5995);
        s.screw(10, 2, 0, 1);
        // true places 2 and 102 now, where B 49, C 9 rise by 9 and 509
        due("the screw moves known lines too", s.law(0), 991);
        due("B", s.law(1), 49);
        due("C", s.law(2), 9);
        due("and spans", s.span(105, true, false), 990 + 5 * (105 - 2 + 1));
        s.error(1);
        due("a wider error keeps more laws", s.laws() > 1, true);
        due("the span is wider", s.span(0, false, true) - s.span(0, false, false) >= 2, true);
    }

    // Promise 14
    private static void slips() {
        due("nothing known", new RainbowPlate().slipped(), 0);
        RainbowPlate x = Make.exact();
        due("holds as it is", x.slipped(), 0);
        x.known(200, false, 2010, true);
        due("2 ticks more", x.slipped(), 2);
        RainbowPlate y = Make.exact();
        y.known(200, false, 1850, true);
        due("30 ticks less", y.slipped(), -30);
        RainbowPlate z = Make.exact();
        z.known(200, false, 1840, true);
        due("32 ticks less are too many", z.slipped(), 99);
        RainbowPlate p = Make.exact();
        p.known(200, false, 2150, true);
        due("30 ticks more", p.slipped(), 30);
        RainbowPlate q = Make.exact();
        q.known(200, false, 2160, false);
        due("not of the spark", q.slipped(), 99);
        RainbowPlate mirror = new RainbowPlate();
        mirror.error(0);
        mirror.known(500, false, 5000, false);
        mirror.known(500, false, 5009, true);
        // 9 more in one tick: B 90, C 0; no law falls so much
        due("up, where a law rises", mirror.slipped(), 1);
        RainbowPlate fall = new RainbowPlate();
        fall.error(0);
        fall.known(500, false, 5000, false);
        fall.known(500, false, 4991, true);
        due("down, where it falls", fall.slipped(), -1);
        RainbowPlate tie = new RainbowPlate();
        tie.error(0);
        // 1 less: a law that rises slips down, one that falls slips up
        tie.known(990, false, 5000, false);
        tie.known(990, false, 4999, true);
        due("of two the lower one", tie.slipped(), -1);
        RainbowPlate tied = new RainbowPlate();
        tied.error(0);
        tied.known(990, false, 5000, false);
        tied.known(990, false, 5001, true);
        // B 1, C -9 falls by (1000 - 17820) by 10000 a tick, and so rises when it slips down
        due("the lower one, by a law that falls there", tied.slipped(), -1);
        RainbowPlate steep = new RainbowPlate();
        steep.error(0);
        steep.known(0, false, 1000, false);
        steep.known(500, false, 5500, false);
        steep.known(999, false, 9991, false);
        steep.known(100, false, 1927, true);
        due("B 90, C 0 alone", steep.slipped(), 3);
        RainbowPlate flat = new RainbowPlate();
        flat.error(0);
        flat.known(0, false, 1000, false);
        flat.known(500, false, 1275, false);
        flat.known(999, false, 1998, false);
        flat.known(700, false, 1513, true);
        // (702000 + 9 times 702 times 702) by 10000 is 513, at 701 it is 512
        due("B 1, C 9 alone", flat.slipped(), 2);
        RainbowPlate turned = Make.exact();
        turned.screw(10, 0, 0, 7);
        turned.known(200, true, 2035, true);
        due("a spark turned down", turned.slipped(), 0);
        turned.screw(10, 0, 0, 9);
        due("with two ticks more lag", turned.slipped(), -2);
    }

    // Promises 15, 16, 21
    private static void tables() {
        RainbowPlate x = new RainbowPlate();
        thrown("line of none", INDEX, () -> x.line(0, 0, 0));
        due("element 0", x.element(false), 0);
        due("element 1", x.element(true), 1);
        thrown("line of -1", INDEX, () -> x.line(-1, 1000, 1));
        thrown("line of 2", INDEX, () -> x.line(2, 1000, 1));
        thrown("wave 999", ILLEGAL, () -> x.line(0, 999, 1));
        thrown("wave 10000", ILLEGAL, () -> x.line(0, 10000, 1));
        thrown("strength 0", ILLEGAL, () -> x.line(0, 1000, 0));
        thrown("strength 10", ILLEGAL, () -> x.line(0, 1000, 10));
        due("none came", x.count(3), 0);
        due("line 0", x.line(0, 9999, 9), 0);
        due("line 1", x.line(0, 1001, 1), 1);
        due("line 0 of air", x.line(1, 1001, 1), 0);
        due("lies at 50", x.lies(0, 0, 50), 10498);
        due("lies at -50", x.lies(0, 0, -50), 9499);
        due("rounded down", x.lies(0, 1, -1), 999);
        due("at 1", x.lies(0, 1, 1), 1002);
        due("at 0", x.lies(0, 1, 0), 1001);
        due("air stays", x.lies(1, 0, -50), 1001);
        thrown("speed 51", ILLEGAL, () -> x.lies(0, 0, 51));
        thrown("speed -51", ILLEGAL, () -> x.lies(0, 0, -51));
        thrown("no such line, and the speed is none", INDEX, () -> x.lies(0, 2, 51));
        thrown("line -1", INDEX, () -> x.lies(0, -1, 0));
        thrown("element 2", INDEX, () -> x.lies(2, 0, 0));
        thrown("element -1", INDEX, () -> x.lies(-1, 0, 0));
        for (int n = 2; n < 6; n++) {
            due("line " + n, x.line(0, 1000, 1), n);
        }
        thrown("a wrong 7th line", ILLEGAL, () -> x.line(0, 1, 1));
        thrown("a 7th line", FULL, () -> x.line(0, 1000, 1));
        due("lines in all", x.count(3), 7);
        for (int n = 2; n < 6; n++) {
            due("element " + n, x.element(false), n);
        }
        thrown("a 7th element", FULL, () -> x.element(false));
        due("the last line of the last element", x.line(5, 5000, 5), 0);
        due("lies", x.lies(5, 0, 2), 5010);
    }

    // Promises 17 to 20, 22
    private static void platesAndReadings() {
        RainbowPlate x = Make.exact();
        int[][] wrong = {{0, 1, 1000, 1000, 0}, {10, 1, 1000, 1000, 0}, {1, 0, 1000, 1000, 0}, {1, 6, 1000, 1000, 0},
            {1, 1, 999, 1000, 0}, {1, 1, 1000, 10000, 0}, {1, 1, 1001, 1000, 0}, {1, 1, 1000, 1000, -1},
            {1, 1, 1000, 1000, 501}};
        for (int[] w : wrong) {
            thrown("plate " + java.util.Arrays.toString(w), ILLEGAL, () -> x.plate(w[0], w[1], w[2], w[3], w[4]));
        }
        due("none came", x.count(4), 0);
        thrown("a reading of none", INDEX, () -> x.reading(0, -1, false, 0, 0));
        due("plate 0", x.plate(5, 2, 2000, 3000, 500), 0);
        due("plate 1", x.plate(9, 5, 9999, 9999, 0), 1);
        due("plate 2", x.plate(1, 1, 1000, 9999, 1), 2);
        thrown("a wrong 4th", ILLEGAL, () -> x.plate(1, 1, 1001, 1000, 0));
        thrown("a 4th", FULL, () -> x.plate(1, 1, 1000, 1000, 0));
        thrown("plate -1", INDEX, () -> x.reading(-1, 0, false, 1, 1));
        thrown("plate 3", INDEX, () -> x.reading(3, 0, false, 1, 1));
        int[][] bad = {{-1, 1, 1}, {1000, 1, 1}, {0, 0, 1}, {0, 10, 1}, {0, 1, 0}, {0, 1, 10}};
        for (int[] w : bad) {
            thrown("reading " + java.util.Arrays.toString(w), ILLEGAL, () -> x.reading(0, w[0], true, w[1], w[2]));
        }
        x.screw(10, 3, 0, 4);
        due("reading 0", x.reading(2, 107, true, 8, 9), 0);
        int[] want = {2, 107, 1, 8, 9, 108, 985 + 540, 985 + 540, 0};
        for (int what = 0; what < want.length; what++) {
            due("look(0, " + what + ")", x.look(0, what), want[what]);
        }
        x.known(0, false, 5000, false);
        due("no span, least", x.look(0, 6), -99999);
        due("no span, greatest", x.look(0, 7), -99999);
        due("none has a span", x.count(9), 0);
        thrown("look(0, 9)", NO_SUCH, () -> x.look(0, 9));
        thrown("look(0, -1)", NO_SUCH, () -> x.look(0, -1));
        thrown("look(1, 9)", INDEX, () -> x.look(1, 9));
        thrown("look(-1, 0)", INDEX, () -> x.look(-1, 0));
        for (int n = 1; n < 24; n++) {
            due("reading " + n, x.reading(n % 3, n, false, 1, 1), n);
        }
        thrown("a wrong 25th", ILLEGAL, () -> x.reading(0, 0, false, 10, 1));
        thrown("a 25th", FULL, () -> x.reading(0, 0, false, 1, 1));
        due("look(23, 0)", x.look(23, 0), 2);
        due("look(23, 1)", x.look(23, 1), 23);
        due("look(23, 2)", x.look(23, 2), 0);
        for (int n = 23; n >= 0; n--) {
            due("away " + n, x.away(), n);
        }
        due("away without one", x.away(), -1);
        due("a reading after these", x.reading(1, 5, false, 1, 1), 0);

        x.element(false);
        x.element(true);
        x.line(0, 2000, 3);
        x.line(0, 3000, 3);
        x.line(0, 1999, 9);
        x.line(0, 3001, 9);
        x.line(0, 2500, 2);
        x.line(1, 9999, 1);
        due("3 times 5 times 2 at the first wave", x.must(0, 0, 0), true);
        due("and at the last", x.must(0, 0, 1), true);
        due("one ahead of it", x.must(0, 0, 2), false);
        due("one behind it", x.must(0, 0, 3), false);
        due("too faint", x.must(0, 0, 4), false);
        due("1 times 9 times 5", x.must(1, 1, 0), true);
        due("1 times 1 times 1", x.must(2, 1, 0), false);
        thrown("must plate 3", INDEX, () -> x.must(3, 0, 0));
        thrown("must plate -1", INDEX, () -> x.must(-1, 0, 0));
        thrown("must element", INDEX, () -> x.must(0, 2, 0));
        thrown("must element -1", INDEX, () -> x.must(0, -1, 0));
        thrown("must line", INDEX, () -> x.must(0, 1, 1));
        thrown("must line -1", INDEX, () -> x.must(0, 1, -1));
    }

    // Promise 19, what 8, and promise 49, what 6
    private static void ghosts() {
        RainbowPlate x = new RainbowPlate();
        x.plate(1, 1, 1000, 9999, 20);
        x.plate(1, 1, 1000, 9999, 1);
        x.plate(1, 1, 1000, 9999, 0);
        x.reading(0, 100, false, 7, 1);
        int[] places = {79, 78, 81, 82, 119, 121, 118, 122, 120};
        int[] want = {1, 0, 1, 0, 1, 1, 0, 0, 1};
        for (int n = 0; n < places.length; n++) {
            int r = x.reading(0, places[n], n % 2 == 0, 6, 1);
            due("ghost at " + places[n], x.look(r, 8), want[n]);
        }
        due("the strong one is none", x.look(0, 8), 0);
        due("how many", x.count(6), 5);
        x.screw(10, 9, 0, 9);
        due("by places as read", x.count(6), 5);
        int one = x.reading(1, 300, false, 9, 1);
        due("not by itself", x.look(one, 8), 0);
        int two = x.reading(1, 300, false, 6, 1);
        due("1 less than 1 is the same place", x.look(two, 8), 1);
        int three = x.reading(1, 302, false, 7, 1);
        due("2 away of the strong one", x.look(three, 8), 1);
        due("which is one by this too", x.look(one, 8), 1);
        int four = x.reading(2, 400, false, 9, 1);
        int five = x.reading(2, 401, false, 9, 1);
        due("without ghosts", x.look(four, 8) + x.look(five, 8), 0);
        int six = x.reading(1, 80, false, 6, 1);
        due("not by another plate's", x.look(six, 8), 0);
    }

    // Promises 23 to 26
    private static void sets() {
        RainbowPlate x = Make.exact();
        x.plate(9, 5, 1500, 3500, 0);
        for (int e = 0; e < 4; e++) {
            x.element(e == 1);
        }
        due("no readings and no lines: each set of three", x.sets(0, 0), 8);
        due("the fewest is the empty one", x.sets(0, 1), 0);
        due("none is sure", x.sets(0, 2), 0);
        due("all may be, but air is told of in none", x.sets(0, 3), 13);
        x.line(0, 2000, 5);
        x.line(2, 2000, 5);
        x.line(3, 2500, 5);
        x.line(1, 4000, 9);
        due("only the empty one misses nothing", x.sets(0, 0), 1);
        x.reading(0, 200, false, 5, 1);
        due("0, 2, or both", x.sets(0, 0), 3);
        due("the least bits", x.sets(0, 1), 1);
        due("neither is sure", x.sets(0, 2), 0);
        due("both may be", x.sets(0, 3), 5);
        due("left by the empty set", x.left(0, 0, 0), 1);
        due("left by 3 alone", x.left(0, 8, 0), 1);
        due("explained by 0", x.explains(0, 1, 0), true);
        due("not by 3", x.explains(0, 8, 0), false);
        due("not by 0 and 3", x.explains(0, 9, 0), false);
        due("bits of none count for nothing", x.explains(0, 1 | 0xFFFFFFC0, 0), true);
        due("nor do bits of air", x.explains(0, 3, 0), true);
        due("missed by 0 and 3", x.missed(0, 9, 0), 1);
        due("missed by all", x.missed(0, -1, 0), 1);
        due("missed at a speed", x.missed(0, 9, 1), 2);
        due("left at a speed", x.left(0, 9, 1), 1);
        x.reading(0, 300, false, 5, 1);
        due("3 with 0, with 2, with both", x.sets(0, 0), 3);
        due("fewest of two", x.sets(0, 1), 9);
        due("3 is sure", x.sets(0, 2), 8);
        due("all may be", x.sets(0, 3), 13);
        x.reading(0, 600, false, 5, 1);
        due("air explains what is outside of the plate too", x.sets(0, 0), 3);
        x.plate(9, 5, 1000, 9999, 0);
        due("air that must be seen and is not", x.sets(1, 0), 0);
        due("fewest of none", x.sets(1, 1), -1);
        due("sure of none", x.sets(1, 2), 0);
        due("may of none", x.sets(1, 3), 0);
        due("missed: the line of air", x.missed(1, 0, 0), 1);
        due("and of each", x.missed(1, 13, 0), 4);
        x.reading(1, 600, false, 1, 1);
        due("readings of another plate do not count", x.sets(1, 0), 1);
        due("left as bits of all readings", x.left(1, 0, 50), 0);
        x.reading(1, 601, false, 1, 1);
        due("reading 4 is left", x.left(1, 13, 0), 16);
        due("missed on one plate", x.missed(0, 13, 0), 0);
        due("and on the other", x.missed(1, 13, 0), 3);
        thrown("explains plate", INDEX, () -> x.explains(2, 0, 51));
        thrown("explains plate -1", INDEX, () -> x.explains(-1, 0, 0));
        thrown("explains speed", ILLEGAL, () -> x.explains(0, 0, 51));
        thrown("explains speed below", ILLEGAL, () -> x.explains(0, 0, -51));
        thrown("left plate", INDEX, () -> x.left(2, 0, 51));
        thrown("left speed", ILLEGAL, () -> x.left(0, 0, 51));
        thrown("left speed below", ILLEGAL, () -> x.left(0, 0, -51));
        thrown("missed plate", INDEX, () -> x.missed(2, 0, 51));
        thrown("missed speed", ILLEGAL, () -> x.missed(0, 0, 51));
        thrown("missed speed below", ILLEGAL, () -> x.missed(0, 0, -51));
        thrown("sets plate", INDEX, () -> x.sets(2, 4));
        thrown("sets plate -1", INDEX, () -> x.sets(-1, 0));
        thrown("sets what", NO_SUCH, () -> x.sets(0, 4));
        thrown("sets what -1", NO_SUCH, () -> x.sets(0, -1));
        x.known(0, false, 2000, false);
        due("without a span all are left", x.left(0, 13, 0), 7);
        due("and all are missed", x.missed(0, 13, 0), 3);
        due("nothing explains", x.sets(0, 0), 0);

        RainbowPlate g = Make.exact();
        g.plate(9, 5, 1000, 9999, 20);
        g.element(false);
        g.line(0, 2000, 9);
        g.reading(0, 200, false, 9, 1);
        g.reading(0, 220, false, 1, 1);
        due("a ghost needs no line", g.explains(0, 1, 0), true);
        due("and is not left", g.left(0, 0, 0), 1);
        g.line(0, 2100, 9);
        due("but a line may lie in it", g.missed(0, 1, 0), 0);

        RainbowPlate f = Make.exact();
        f.plate(9, 5, 1000, 9999, 0);
        for (int e = 0; e < 3; e++) {
            f.element(false);
        }
        f.line(0, 2000, 1);
        f.line(1, 2100, 1);
        f.line(2, 2000, 1);
        f.line(2, 2100, 1);
        f.reading(0, 200, false, 1, 1);
        f.reading(0, 220, false, 1, 1);
        due("fewest ahead of the least bits", f.sets(0, 1), 4);
        due("five sets", f.sets(0, 0), 5);
    }

    // Promise 27
    private static void speeds() {
        RainbowPlate x = Make.exact();
        x.plate(9, 5, 2000, 3000, 0);
        x.element(false);
        x.element(true);
        due("nothing to explain", x.speeds(0, 1, 0), 101);
        due("least", x.speeds(0, 1, 1), -50);
        due("greatest", x.speeds(0, 1, 2), 50);
        x.line(0, 2500, 9);
        due("always on the plate and never seen", x.speeds(0, 1, 0), 0);
        due("least of none", x.speeds(0, 1, 1), 99);
        due("greatest of none", x.speeds(0, 1, 2), 99);
        due("the empty set", x.speeds(0, 0, 0), 101);
        x.line(0, 1980, 9);
        due("still none", x.speeds(0, 1, 0), 0);
        x.reading(0, 290, false, 1, 1);
        // 2500 is at 2450 with speed -20, where 1980 is off the plate
        due("one speed", x.speeds(0, 1, 0), 1);
        due("it is the least", x.speeds(0, 1, 1), -20);
        due("and the greatest", x.speeds(0, 1, 2), -20);
        x.line(1, 2450, 9);
        due("air explains the reading, but the line is missed", x.speeds(0, 1, 0), 1);
        due("air alone at each speed", x.speeds(0, 0, 0), 101);
        RainbowPlate two = Make.exact();
        two.plate(1, 1, 1000, 9999, 0);
        two.element(false);
        two.line(0, 2000, 1);
        two.line(0, 2100, 1);
        two.reading(0, 210, false, 1, 1);
        // 2050: 2000 at 25; 2100 at -23 is 2051, at -24 is 2049
        due("by the first line", two.speeds(0, 1, 1), 25);
        two.line(0, 2250, 1);
        // 2250 at -50 is 2137; no
        due("one speed again", two.speeds(0, 1, 0), 1);
        two.line(0, 2050, 1);
        due("two speeds", two.speeds(0, 1, 0), 2);
        due("least is 0", two.speeds(0, 1, 1), 0);
        due("greatest is 25", two.speeds(0, 1, 2), 25);
        thrown("speeds plate", INDEX, () -> x.speeds(1, 0, 3));
        thrown("speeds plate -1", INDEX, () -> x.speeds(-1, 0, 0));
        thrown("speeds what", NO_SUCH, () -> x.speeds(0, 0, 3));
        thrown("speeds what -1", NO_SUCH, () -> x.speeds(0, 0, -1));
    }

    private static RainbowPlate oneLine(int strength, int seen) {
        RainbowPlate x = Make.exact();
        x.plate(9, 5, 1000, 9999, 0);
        x.element(false);
        x.line(0, 2000, strength);
        x.reading(0, 200, false, seen, 1);
        return x;
    }

    private static void dueAmounts(String what, RainbowPlate x, int least, int most) {
        due(what + ": least", x.amount(0, 1, 0, false), least);
        due(what + ": greatest", x.amount(0, 1, 0, true), most);
    }

    // Promise 28
    private static void amounts() {
        // 5 shows 1 .. 9 itself
        dueAmounts("5 seen 1", oneLine(5, 1), 1, 2);
        dueAmounts("5 seen 6", oneLine(5, 6), 5, 7);
        dueAmounts("5 seen 9", oneLine(5, 9), 8, 9);
        // 6: 1 2 3 4 6 7 8 9 9 (9.6, 10.8)
        dueAmounts("6 seen 9", oneLine(6, 9), 7, 9);
        // 7: 1 2 4 5 7 8, then 9 - 2, 9 - 4, 9 - 6
        dueAmounts("7 seen 9", oneLine(7, 9), 6, 6);
        dueAmounts("7 seen 8", oneLine(7, 8), 5, 7);
        dueAmounts("7 seen 4", oneLine(7, 4), 3, 9);
        // 9: 1 3 5 7 9 9 (10.8), then 12 is 9 - 2 = 7, 14 is 9 - 4 = 5, 16 is 9 - 6 = 3
        dueAmounts("9 seen 9", oneLine(9, 9), 5, 6);
        dueAmounts("9 seen 8", oneLine(9, 8), 4, 7);
        dueAmounts("9 seen 3", oneLine(9, 3), 2, 9);
        dueAmounts("9 seen 2", oneLine(9, 2), 1, 9);
        dueAmounts("9 seen 5", oneLine(9, 5), 3, 8);
        // 1: 0 0 0 0 1 1 1 1 1
        dueAmounts("1 seen 1", oneLine(1, 1), 1, 9);
        dueAmounts("1 seen 2", oneLine(1, 2), 5, 9);
        dueAmounts("1 seen 3", oneLine(1, 3), -1, -1);
        // 4: 0 1 2 3 4 4 5 6 7
        dueAmounts("4 seen 8", oneLine(4, 8), 9, 9);

        RainbowPlate x = oneLine(5, 1);
        x.line(0, 3000, 5);
        x.reading(0, 400, false, 9, 1);
        dueAmounts("1 and 9 together", x, -1, -1);
        RainbowPlate y = oneLine(5, 1);
        y.line(0, 2000, 1);
        dueAmounts("two lines of it in one reading say nothing", y, 1, 9);
        RainbowPlate z = oneLine(5, 1);
        z.element(false);
        z.line(1, 2000, 1);
        dueAmounts("another element that is not of the set", z, 1, 2);
        due("if it is of the set", z.amount(0, 3, 0, true), 9);
        due("itself counts as of the set", z.amount(0, 2, 0, true), 9);
        due("and of no bits", z.amount(0, 0, 0, true), 2);
        RainbowPlate a = oneLine(5, 1);
        a.element(true);
        a.line(1, 2000, 1);
        dueAmounts("a line of air in it", a, 1, 9);
        RainbowPlate faint = Make.exact();
        faint.plate(1, 1, 1000, 9999, 0);
        faint.element(false);
        faint.line(0, 2000, 5);
        faint.reading(0, 200, false, 1, 1);
        dueAmounts("a line that need not be seen", faint, 1, 9);
        RainbowPlate twice = oneLine(5, 4);
        twice.reading(0, 200, false, 5, 1);
        dueAmounts("two readings of one line", twice, 4, 5);
        twice.plate(9, 5, 1000, 9999, 0);
        twice.reading(1, 200, false, 9, 1);
        dueAmounts("a reading of another plate", twice, 4, 5);
        due("of that plate", twice.amount(1, 1, 0, false), 8);
        RainbowPlate air = Make.exact();
        air.plate(9, 5, 1000, 9999, 0);
        air.element(true);
        air.line(0, 2000, 5);
        air.reading(0, 200, false, 1, 1);
        dueAmounts("of air itself", air, 1, 2);
        thrown("amount plate", INDEX, () -> x.amount(1, 0, 0, false));
        thrown("amount plate -1", INDEX, () -> x.amount(-1, 0, 0, false));
        thrown("amount element", INDEX, () -> x.amount(0, 0, 1, false));
        thrown("amount element -1", INDEX, () -> x.amount(0, 0, -1, false));
    }

    // Promise 29
    private static void wide() {
        RainbowPlate x = Make.exact();
        x.plate(1, 3, 1000, 9999, 0);
        x.plate(1, 1, 1000, 9999, 0);
        x.element(false);
        x.element(false);
        x.element(true);
        x.line(0, 2000, 1);
        x.line(0, 2000, 1);
        x.line(1, 2500, 1);
        x.line(2, 2500, 1);
        x.reading(0, 200, false, 1, 4);
        x.reading(0, 300, false, 1, 9);
        x.reading(0, 300, false, 1, 3);
        x.reading(0, 500, false, 1, 4);
        x.reading(1, 500, false, 1, 4);
        due("by the empty set", x.wide(0, 0, false), 1 + 2 + 8);
        due("by 0, with two lines in the first", x.wide(0, 1, false), 2 + 8);
        due("by 1 and air", x.wide(0, 2, false), 1 + 8);
        due("by both", x.wide(0, 3, false), 8);
        due("of the other plate", x.wide(1, 3, false), 16);
        due("shared by none", x.wide(0, 0, true), 0);
        due("two lines of one element are not shared", x.wide(0, 1, true), 0);
        due("shared with air", x.wide(0, 2, true), 2 + 4);
        due("by bits of none", x.wide(0, -4, true), 0);
        x.line(1, 2000, 1);
        due("shared by two elements", x.wide(0, 3, true), 1 + 2 + 4);
        x.element(false);
        x.line(3, 2000, 1);
        due("with a third between them", x.wide(0, 9, true), 1);
        x.element(true);
        x.line(4, 2500, 1);
        due("two elements of air", x.wide(0, 0, true), 2 + 4);
        due("two lines of air", x.wide(0, 0, false), 1 + 8);
        x.known(0, false, 2000, false);
        due("without a span no line lies in it", x.wide(0, 3, false), 1 + 2 + 8);
        due("nor two", x.wide(0, 3, true), 0);
        due("nor of air", x.wide(0, 0, true), 0);
        thrown("wide plate", INDEX, () -> x.wide(2, 0, false));
        thrown("wide plate -1", INDEX, () -> x.wide(-1, 0, true));
    }

    /** A wave of 100000 by n makes the number 100 n, where n parts 100000. */
    private static RainbowPlate numbers(int... hundreds) {
        RainbowPlate x = Make.exact();
        x.plate(1, 1, 1000, 9999, 0);
        for (int n : hundreds) {
            x.reading(0, (100000 / n - 1000) / 5, false, 1, 1);
        }
        return x;
    }

    // Promise 30
    private static void rows() {
        RainbowPlate x = numbers(20, 25, 40, 50, 80);
        // numbers 2000 2500 4000 5000 8000; steps 500 2000 3000 6000 1500 2500 5500 1000 4000 3000
        due("no off: 2000 and 5000, 5000 and 8000 share one", x.rows(0, 0, 0, false), 1);
        due("so the least", x.rows(0, 0, 0, true), 500);
        due("500 and 1000 are apart", x.rows(0, 0, 500, false), 2);
        due("from 500", x.rows(0, 0, 500, true), 500);
        due("999 reaches no third", x.rows(0, 0, 999, false), 2);
        due("499 finds none two", x.rows(0, 0, 499, false), 1);
        RainbowPlate same = numbers(20, 20, 20);
        due("a step is above 0", same.rows(0, 0, 999, false), 0);
        due("without pairs", same.rows(0, 0, 999, true), -1);
        RainbowPlate two = numbers(20, 25, 50, 20, 25);
        due("one step twice", two.rows(0, 0, 0, false), 2);
        due("it is 500", two.rows(0, 0, 0, true), 500);
        RainbowPlate later = numbers(20, 40, 20, 40, 25);
        // 2000 4000 2000 4000 2500: 500, 1500, 2000
        due("2000 twice", later.rows(0, 0, 0, false), 2);
        due("the least with so many is 1500? once; so 2000", later.rows(0, 0, 0, true), 2000);
        due("1500 and 2000", later.rows(0, 0, 500, false), 2);
        due("all not below 1500 and at most 500 above", later.rows(0, 0, 500, true), 1500);
        RainbowPlate path = numbers(20, 25, 20);
        due("no reading in two pairs", path.rows(0, 0, 0, false), 1);
        RainbowPlate ten = numbers(20, 25, 20, 25, 20, 25, 20, 25, 20, 20, 25);
        due("of the first ten four pairs", ten.rows(0, 0, 0, false), 4);
        RainbowPlate skipped = numbers(20, 20, 25, 25, 50);
        skipped.element(false);
        skipped.line(0, 5000, 1);
        due("what a line lies in is not left", skipped.rows(0, 1, 0, true), 2500);
        due("but by the empty set", skipped.rows(0, 0, 0, false), 2);
        RainbowPlate near = Make.exact();
        near.plate(1, 1, 1000, 9999, 0);
        near.reading(0, 999, false, 1, 1);
        near.reading(0, 998, false, 1, 1);
        // 10000000 by 5995 is 1668, by 5990 it is 1669
        due("a step of 1", near.rows(0, 0, 0, true), 1);
        for (int low = 0; low < 2; low++) {
            // one law: the wave is 0 or 1, and 9 for each tick
            RainbowPlate y = new RainbowPlate();
            y.error(0);
            y.known(112, false, 1008 + low, false);
            y.known(500, false, 4500 + low, false);
            y.known(900, false, 8100 + low, false);
            y.plate(1, 1, 1000, 9999, 0);
            y.reading(0, 0, false, 1, 1);
            y.reading(0, 1, false, 1, 1);
            due("one law", y.laws() * 10000 + y.law(0), 10000 + low);
            due("a middle of " + low, y.rows(0, 0, 0, true), low == 0 ? -1 : 9000000);
            due("is left all the same", y.left(0, 0, 0), 3);
        }
        RainbowPlate middle = new RainbowPlate();
        middle.plate(1, 1, 1000, 9999, 0);
        middle.reading(0, 0, false, 1, 1);
        middle.reading(0, 100, false, 1, 1);
        // all laws: 0 has -2 to 10001, middle 4999 (rounded down), 2000; 100 has -1 to 10910, middle 5454, 1833
        due("the step of rounded middles", middle.rows(0, 0, 0, true), 2000 - 1833);
        RainbowPlate none = numbers(20, 25);
        none.known(0, false, 2000, false);
        due("without a span", none.rows(0, 0, 0, false), 0);
        RainbowPlate other = numbers(20);
        other.plate(1, 1, 1000, 9999, 0);
        other.reading(1, 600, false, 1, 1);
        due("of one plate", other.rows(0, 0, 0, false), 0);
        thrown("rows plate", INDEX, () -> x.rows(1, 0, 1000, false));
        thrown("rows plate -1", INDEX, () -> x.rows(-1, 0, 0, false));
        thrown("rows off", ILLEGAL, () -> x.rows(0, 0, 1000, false));
        thrown("rows off -1", ILLEGAL, () -> x.rows(0, 0, -1, false));
    }

    // Promise 41
    private static void sums() {
        RainbowPlate x = numbers(20, 20, 40, 50, 80);
        // 2000 2000 4000 5000 8000
        due("2000 and 2000 are 4000", x.sums(0, 0, 0), 1);
        // off by 999: 5000 is 4000 (the two 2000) and 1000 more: not; 8000 and 4000, 5000: 1000 less: not
        due("999", x.sums(0, 0, 999), 1);
        RainbowPlate y = numbers(20, 25, 40, 50);
        // 2000 2500 4000: off 500; 2000 2500 5000: off 500; 2000 4000 5000: off 1000; 2500 4000 5000: off 1500
        due("none to 499", y.sums(0, 0, 499), 0);
        due("two to 500", y.sums(0, 0, 500), 2);
        RainbowPlate first = numbers(40, 20, 20);
        due("whichever comes first", first.sums(0, 0, 0), 1);
        RainbowPlate second = numbers(20, 40, 20);
        due("or second", second.sums(0, 0, 0), 1);
        RainbowPlate ten = numbers(25, 25, 25, 25, 25, 25, 25, 25, 25, 50, 50);
        due("of the first ten", ten.sums(0, 0, 0), 36);
        ten.element(false);
        ten.line(0, 2000, 1);
        due("of those left", ten.sums(0, 1, 0), 0);
        thrown("sums plate", INDEX, () -> x.sums(1, 0, 1000));
        thrown("sums plate -1", INDEX, () -> x.sums(-1, 0, 0));
        thrown("sums off", ILLEGAL, () -> x.sums(0, 0, 1000));
        thrown("sums off -1", ILLEGAL, () -> x.sums(0, 0, -1));
    }

    // Promise 31
    private static void next() {
        RainbowPlate x = new RainbowPlate();
        due("no elements", x.next(1, 2, 1000, 9999), -1);
        x.element(false);
        x.element(false);
        x.element(true);
        x.line(0, 2000, 6);
        due("6 times 1 times 5", x.next(1, 0, 1000, 9999), 15);
        due("either may be first", x.next(0, 1, 1000, 9999), 15);
        due("bits of none", x.next(-8, 1, 1000, 9999), 15);
        due("both have it", x.next(1, 3, 1000, 9999), -1);
        due("at the first wave", x.next(1, 0, 2000, 2001), 15);
        due("at the last", x.next(1, 0, 1999, 2000), 15);
        due("ahead", x.next(1, 0, 2001, 9999), -1);
        due("behind", x.next(1, 0, 1000, 1999), -1);
        x.line(1, 2010, 1);
        // within 2 times 5; with time 2 a slit of 3 is enough and 10 is above 6
        due("too near by slit 5", x.next(1, 2, 1000, 9999), 23);
        due("the other way", x.next(2, 1, 1000, 9999), 23);
        x.line(1, 1994, 1);
        // 6 away: not more than 2 times 3; time 3 slit 2
        due("too near by slit 3", x.next(1, 2, 1000, 9999), 32);
        due("the other way too", x.next(2, 1, 1000, 9999), 32);
        due("the other one's line need not be seen to stand near", x.next(1, 2, 2000, 2000), 32);
        x.line(2, 1996, 1);
        // 4 away: not more than 2 times 2; time 5 slit 1
        due("air stands near too", x.next(1, 0, 1000, 9999), 51);
        x.line(2, 2002, 1);
        // 2 away: not more than 2 times 1
        due("never", x.next(1, 0, 1000, 9999), -1);
        x.element(false);
        x.line(3, 5000, 1);
        // 1 times 9 times 4
        due("a faint line, the least time ahead of the least slit", x.next(8, 0, 1000, 9999), 65);
        due("air is of no set", x.next(4, 0, 1000, 9999), -1);
        x.line(3, 6000, 9);
        due("a second line", x.next(8, 0, 1000, 9999), 14);
        thrown("next from", ILLEGAL, () -> x.next(0, 0, 999, 1000));
        thrown("next to", ILLEGAL, () -> x.next(0, 0, 1000, 10000));
        thrown("next order", ILLEGAL, () -> x.next(0, 0, 1001, 1000));
        due("one wave", x.next(0, 0, 1000, 1000), -1);
    }

    // Promise 32
    private static void misprints() {
        RainbowPlate x = Make.exact();
        x.plate(9, 5, 1000, 9999, 0);
        x.element(false);
        x.element(true);
        due("nothing", x.misprint(0, 0), -1);
        x.line(0, 2345, 1);
        due("nothing is left", x.misprint(0, 0), -1);
        int tens = x.reading(0, (2435 - 1000) / 5, false, 1, 1);
        due("3 and 4", x.misprint(0, 0), tens);
        x.line(1, 2435, 1);
        due("air lies in it", x.misprint(0, 0), -1);
        int far = x.reading(0, (3245 - 1000) / 5, false, 1, 1);
        due("2 and 3", x.misprint(0, 0), far);
        int notNeighbours = x.reading(0, (4325 - 1000) / 5, false, 1, 1);
        due("the first reading", x.misprint(0, 0), far);
        x.line(0, 3245, 1);
        due("2 and 4 are no neighbours", x.misprint(0, 0), -1);
        x.line(0, 5678, 1);
        x.line(0, 3425, 1);
        due("of several lines the first that has one", x.misprint(0, 0), 32 * 3 + notNeighbours);
        RainbowPlate ones = new RainbowPlate();
        ones.error(1);
        ones.known(0, false, 1000, false);
        ones.known(100, false, 1500, false);
        ones.known(500, false, 3500, false);
        ones.known(999, false, 5995, false);
        ones.plate(9, 5, 1000, 9999, 0);
        ones.element(false);
        ones.line(0, 2019, 1);
        int r = ones.reading(0, (2090 - 1000) / 5, false, 1, 1);
        due("spans of one law", ones.look(r, 6), 2088);
        due("0 and 1: no; 1 and 9: 2091", ones.misprint(0, 0), r);
        RainbowPlate faint = Make.exact();
        faint.plate(1, 1, 1000, 9999, 0);
        faint.element(false);
        faint.line(0, 2345, 9);
        faint.reading(0, (2435 - 1000) / 5, false, 1, 1);
        due("a line that need not be seen", faint.misprint(0, 0), -1);
        RainbowPlate ghost = Make.exact();
        ghost.plate(9, 5, 1000, 9999, 20);
        ghost.element(false);
        ghost.line(0, 2345, 1);
        ghost.reading(0, (2435 - 1000) / 5, false, 1, 1);
        ghost.line(0, 2535, 1);
        ghost.reading(0, (2535 - 1000) / 5, false, 9, 1);
        due("a ghost is not left", ghost.misprint(0, 0), -1);
        thrown("misprint plate", INDEX, () -> x.misprint(1, 0));
        thrown("misprint plate -1", INDEX, () -> x.misprint(-1, 0));
        thrown("misprint element", INDEX, () -> x.misprint(0, 2));
        thrown("misprint element -1", INDEX, () -> x.misprint(0, -1));
    }

    // Promise 33
    private static void alike() {
        RainbowPlate x = Make.exact();
        x.plate(1, 1, 1000, 9999, 0);
        x.plate(1, 1, 1000, 9999, 0);
        due("nothing", x.alike(0, 1), 0);
        x.reading(0, 100, false, 1, 1);
        x.reading(1, 200, false, 1, 1);
        x.reading(0, 201, false, 1, 1);
        x.reading(0, 200, true, 1, 1);
        due("the same place", x.alike(0, 1), 8);
        due("the other way", x.alike(1, 0), 2);
        due("itself", x.alike(0, 0), 1 + 4 + 8);
        x.reading(0, 200, false, 1, 1);
        due("two of them", x.alike(0, 1), 8 + 16);
        x.screw(10, 0, 0, 1);
        due("a lag of 1 moves the one turned down", x.alike(0, 1), 16);
        x.screw(10, 0, 0, 0);
        x.known(0, false, 2000, false);
        due("without spans", x.alike(0, 0), 0);
        RainbowPlate y = new RainbowPlate();
        y.error(5);
        y.known(0, false, 1000, false);
        y.known(500, false, 3500, false);
        y.known(999, false, 5995, false);
        y.plate(1, 1, 1000, 9999, 0);
        y.plate(1, 1, 1000, 9999, 0);
        y.reading(0, 500, false, 1, 1);
        int low = y.look(0, 6);
        int high = y.look(0, 7);
        for (int place = 490; place <= 510; place++) {
            int r = y.reading(1, place, false, 1, 1);
            boolean common = y.look(r, 6) <= high && y.look(r, 7) >= low;
            due("a common number at " + place, y.alike(0, 1), common ? 1 : 0);
            due("from the other side", y.alike(1, 0), common ? 2 : 0);
            y.away();
        }
        thrown("alike first", INDEX, () -> x.alike(2, 0));
        thrown("alike first -1", INDEX, () -> x.alike(-1, 0));
        thrown("alike second", INDEX, () -> x.alike(0, 2));
        thrown("alike second -1", INDEX, () -> x.alike(0, -1));
    }

    private static void dueStars(String what, RainbowPlate x, int first, int second, int... want) {
        for (int n = 0; n < 3; n++) {
            due(what + ": " + n, x.stars(0, first, second, n), want[n]);
        }
    }

    // Promise 34
    private static void stars() {
        RainbowPlate x = Make.exact();
        x.plate(9, 5, 1000, 9999, 20);
        x.element(false);
        x.element(false);
        x.element(true);
        dueStars("nothing to see", x, 1, 2, 10201, -50, -50);
        x.line(0, 2000, 9);
        dueStars("a line that is missed", x, 1, 2, 0, 99, 99);
        dueStars("not in these sets", x, 2, 0, 10201, -50, -50);
        x.reading(0, 204, false, 1, 1);
        // 2020: speed 10
        dueStars("the first at 10", x, 1, 2, 101, 10, -50);
        dueStars("the second at 10", x, 2, 1, 101, -50, 10);
        dueStars("one set twice", x, 1, 1, 1, 10, 10);
        dueStars("neither", x, 2, 0, 0, 99, 99);
        x.line(1, 3000, 9);
        x.reading(0, 388, false, 1, 1);
        // 2940: speed -20
        dueStars("each its own speed", x, 1, 2, 1, 10, -20);
        x.line(2, 4000, 9);
        dueStars("air is missed", x, 1, 2, 0, 99, 99);
        x.reading(0, 600, false, 9, 1);
        dueStars("air is seen", x, 1, 2, 1, 10, -20);
        dueStars("air in the sets", x, 5, 6, 1, 10, -20);
        x.reading(0, 620, false, 1, 1);
        dueStars("a ghost", x, 1, 2, 1, 10, -20);
        x.reading(0, 660, false, 1, 1);
        dueStars("no ghost", x, 1, 2, 0, 99, 99);
        RainbowPlate two = Make.exact();
        two.plate(9, 5, 1000, 9999, 0);
        two.element(false);
        two.line(0, 2000, 9);
        two.reading(0, 204, false, 1, 1);
        two.reading(0, 192, false, 1, 1);
        dueStars("one element, two stars", two, 1, 1, 2, -20, 10);
        thrown("stars plate", INDEX, () -> x.stars(1, 0, 0, 3));
        thrown("stars plate -1", INDEX, () -> x.stars(-1, 0, 0, 0));
        thrown("stars what", NO_SUCH, () -> x.stars(0, 0, 0, 3));
        thrown("stars what -1", NO_SUCH, () -> x.stars(0, 0, 0, -1));
    }

    // Promise 35
    private static void drift() {
        RainbowPlate x = Make.exact();
        x.plate(9, 5, 1000, 9999, 0);
        x.plate(9, 5, 1000, 9999, 0);
        due("nothing to explain", x.drift(0, 0, false), 61);
        due("nearest", x.drift(0, 0, true), 0);
        x.element(false);
        x.element(true);
        x.line(0, 2000, 9);
        due("a line that is missed", x.drift(0, 1, false), 0);
        due("none", x.drift(0, 1, true), 99);
        x.reading(0, 203, false, 1, 1);
        due("one", x.drift(0, 1, false), 1);
        due("3 less", x.drift(0, 1, true), -3);
        due("the other plate stays", x.drift(1, 1, false), 0);
        RainbowPlate y = Make.exact();
        y.plate(1, 1, 1000, 9999, 0);
        y.element(false);
        y.line(0, 1850, 1);
        y.line(0, 2150, 1);
        y.reading(0, 200, false, 1, 1);
        due("both ends", y.drift(0, 1, false), 2);
        due("of two the lower one", y.drift(0, 1, true), -30);
        y.line(0, 2145, 1);
        due("29 is nearer", y.drift(0, 1, true), 29);
        y.line(0, 1845, 1);
        due("31 ticks are too many", y.drift(0, 1, false), 3);
        RainbowPlate edge = Make.exact();
        edge.plate(1, 1, 1000, 9999, 0);
        edge.element(false);
        edge.screw(2, 9, 1, 0);
        // known lines at true places -9 and 91 now: 1000 is at -9; places 0 and 999 may drift beyond both ends
        edge.line(0, 1000, 1);
        edge.reading(0, 0, false, 1, 1);
        due("at -9", edge.look(0, 5), -9);
        due("explained as it is", edge.drift(0, 1, true), 0);
        RainbowPlate last = new RainbowPlate();
        last.error(0);
        last.screw(2, 9, 1, 9);
        last.plate(1, 1, 1000, 9999, 0);
        last.element(false);
        // true places -9, 91, 491 and 989, so that the wave is 1045 and 5 P by one law alone
        last.known(0, false, 1000, false);
        last.known(100, false, 1500, false);
        last.known(500, false, 3500, false);
        last.known(998, false, 5990, false);
        due("one law", last.laws(), 1);
        last.reading(0, 999, true, 1, 1);
        due("999 down is at 1017", last.look(0, 5), 1017);
        last.line(0, 1045 + 5 * 1047, 1);
        due("30 beyond", last.drift(0, 1, true), 30);
        last.away();
        last.reading(0, 0, false, 1, 1);
        due("0 up is at -9", last.look(0, 5), -9);
        due("none yet", last.drift(0, 1, true), 99);
        last.line(0, 1045 + 5 * 21, 1);
        due("30 to the other side of 0", last.drift(0, 1, true), 30);
        RainbowPlate below = new RainbowPlate();
        below.error(0);
        below.screw(2, 9, 1, 9);
        below.plate(1, 1, 1000, 9999, 0);
        below.element(false);
        below.known(0, false, 1955, false);
        below.known(100, false, 2455, false);
        below.known(500, false, 4455, false);
        below.known(998, false, 6945, false);
        due("one law of A 2000", below.laws() * 10000 + below.law(0), 12000);
        below.reading(0, 0, false, 1, 1);
        below.line(0, 2000 - 5 * 39, 1);
        due("30 below -9", below.drift(0, 1, true), -30);
        RainbowPlate g = Make.exact();
        g.plate(9, 5, 1000, 9999, 20);
        g.element(true);
        g.line(0, 2000, 9);
        g.reading(0, 201, false, 9, 1);
        g.reading(0, 221, false, 1, 1);
        due("ghosts stay, air is in the empty set", g.drift(0, 0, true), -1);
        thrown("drift plate", INDEX, () -> x.drift(2, 0, false));
        thrown("drift plate -1", INDEX, () -> x.drift(-1, 0, true));
    }

    private static void dueChance(String what, RainbowPlate x, int set, int maker, int above, int below) {
        due(what + ": above", x.chance(0, set, maker, false), above);
        due(what + ": below", x.chance(0, set, maker, true), below);
    }

    // Promises 36 to 40
    private static void makers() {
        RainbowPlate x = Make.exact();
        x.plate(9, 5, 1000, 9999, 0);
        due("likely without makers", x.likely(0, 0), -1);
        thrown("recipe of none", INDEX, () -> x.recipe(0, 0, 10, 0));
        thrown("chance of none", INDEX, () -> x.chance(0, 0, 0, false));
        thrown("forged of none", INDEX, () -> x.forged(0, 0, 0));
        due("maker 0", x.maker(), 0);
        dueChance("no elements", x, 0, 0, 1, 1);
        due("likely", x.likely(0, 0), 0);
        x.element(false);
        x.element(false);
        x.element(true);
        x.line(0, 2000, 5);
        x.reading(0, 200, false, 5, 1);
        // 4, 5, 6 fit of element 0; all nine of element 1
        dueChance("any recipe", x, 3, 0, 1, 1);
        x.recipe(0, 0, 0, 4);
        dueChance("4 of 4 5 6", x, 3, 0, 1, 3);
        x.recipe(0, 0, 5, 9);
        dueChance("5 and 6", x, 3, 0, 2, 3);
        x.recipe(0, 1, 0, 3);
        dueChance("and 1 2 3 of nine", x, 3, 0, 2, 9);
        dueChance("element 1 is not of the set and may be 0", x, 1, 0, 2, 3);
        dueChance("element 0 is not of the set and may not be 0", x, 2, 0, 0, 1);
        x.recipe(0, 1, 1, 3);
        dueChance("element 1 may not be 0 either", x, 1, 0, 0, 1);
        x.recipe(0, 2, 1, 9);
        dueChance("air is not asked", x, 3, 0, 2, 9);
        dueChance("nor as of the set", x, 7, 0, 2, 9);
        x.recipe(0, 0, 7, 9);
        dueChance("none in the recipe", x, 3, 0, 0, 1);
        due("none is likely", x.likely(0, 3), -1);
        due("all are 0: none is forged", x.forged(0, 3, 0), false);
        due("maker 1", x.maker(), 1);
        due("maker 2", x.maker(), 2);
        due("maker 3", x.maker(), 3);
        thrown("a 5th maker", FULL, x::maker);
        due("how many", x.count(10), 4);
        x.recipe(1, 0, 4, 5);
        x.recipe(2, 0, 6, 6);
        x.recipe(3, 0, 0, 5);
        due("2 of 3 is the most, of 1 and 3 the least", x.likely(0, 1), 1);
        due("not forged", x.forged(0, 1, 1), false);
        due("nor the other", x.forged(0, 1, 3), false);
        due("1 of 3 is", x.forged(0, 1, 2), true);
        due("0 is", x.forged(0, 1, 0), true);
        due("without element 0 only maker 3 may be", x.likely(0, 0), 3);
        x.recipe(3, 5, 3, 9);
        dueChance("a recipe of an element that is not there yet", x, 1, 3, 2, 3);
        x.element(false);
        x.element(false);
        x.element(false);
        dueChance("now it is there", x, 1, 3, 0, 1);
        dueChance("and of the set", x, 33, 3, 2 * 7, 3 * 9);
        RainbowPlate none = oneLine(1, 3);
        none.maker();
        dueChance("no amount fits", none, 1, 0, 0, 1);
        dueChance("not of the set", none, 0, 0, 1, 1);
        none.recipe(0, 0, 0, 0);
        dueChance("0 to 0", none, 0, 0, 1, 1);
        RainbowPlate both = oneLine(5, 2);
        both.plate(9, 5, 1000, 9999, 0);
        both.reading(1, 200, false, 8, 1);
        both.maker();
        both.maker();
        both.recipe(0, 0, 0, 3);
        both.recipe(1, 0, 4, 9);
        due("likely by plate 0", both.likely(0, 1), 0);
        due("likely by plate 1", both.likely(1, 1), 1);
        due("forged by plate 0", both.forged(0, 1, 1), true);
        due("not by plate 1", both.forged(1, 1, 1), false);
        due("missed on neither", both.missed(0, 1, 0) + both.missed(1, 1, 0), 0);
        RainbowPlate wide = Make.exact();
        wide.plate(9, 5, 1000, 9999, 0);
        for (int m = 0; m < 2; m++) {
            wide.maker();
        }
        for (int e = 0; e < 6; e++) {
            wide.element(false);
            wide.recipe(0, e, 1, 8);
            wide.recipe(1, e, 2, 9);
        }
        wide.recipe(1, 5, 3, 9);
        dueChance("8 of 9 six times", wide, 63, 0, 262144, 531441);
        dueChance("and 7 of 9 once", wide, 63, 1, 32768 * 7, 531441);
        due("great numbers", wide.likely(0, 63), 0);
        due("the other is forged", wide.forged(0, 63, 1), true);
        thrown("recipe element -1", INDEX, () -> x.recipe(0, -1, 0, 0));
        thrown("recipe element 6", INDEX, () -> x.recipe(0, 6, 10, 0));
        thrown("recipe maker -1", INDEX, () -> x.recipe(-1, 0, 0, 0));
        thrown("recipe maker 4", INDEX, () -> x.recipe(4, 0, 0, 0));
        thrown("recipe low", ILLEGAL, () -> x.recipe(0, 0, -1, 0));
        thrown("recipe high", ILLEGAL, () -> x.recipe(0, 0, 0, 10));
        thrown("recipe order", ILLEGAL, () -> x.recipe(0, 0, 2, 1));
        thrown("chance plate", INDEX, () -> x.chance(1, 0, 0, false));
        thrown("chance plate -1", INDEX, () -> x.chance(-1, 0, 0, false));
        thrown("chance maker", INDEX, () -> x.chance(0, 0, 4, false));
        thrown("chance maker -1", INDEX, () -> x.chance(0, 0, -1, true));
        thrown("likely plate", INDEX, () -> x.likely(1, 0));
        thrown("likely plate -1", INDEX, () -> x.likely(-1, 0));
        thrown("forged plate", INDEX, () -> x.forged(1, 0, 0));
        thrown("forged plate -1", INDEX, () -> x.forged(-1, 0, 0));
        thrown("forged maker", INDEX, () -> x.forged(0, 0, 4));
        thrown("forged maker -1", INDEX, () -> x.forged(0, 0, -1));
    }

    // Promises 42, 43
    private static void grainAndNear() {
        RainbowPlate x = Make.exact();
        x.plate(1, 1, 1000, 9999, 20);
        x.plate(1, 1, 1000, 9999, 0);
        x.element(false);
        x.element(false);
        x.element(true);
        x.line(0, 2000, 1);
        x.line(2, 2500, 1);
        x.reading(0, 200, false, 1, 1);
        x.reading(0, 400, false, 1, 1);
        x.reading(0, 500, false, 2, 1);
        x.reading(1, 600, false, 1, 1);
        x.reading(0, 700, false, 9, 1);
        x.reading(0, 720, false, 1, 1);
        x.reading(0, 300, false, 1, 1);
        due("grain of the empty set", x.grain(0, 0), 3);
        due("grain of 0", x.grain(0, 1), 2);
        due("of the other plate", x.grain(1, 1), 8);
        thrown("grain plate", INDEX, () -> x.grain(2, 0));
        thrown("grain plate -1", INDEX, () -> x.grain(-1, 0));

        x.line(1, 2010, 1);
        x.line(1, 1990, 1);
        x.line(1, 2500, 1);
        due("nothing within 9", x.near(1, 0, 9), 0);
        due("two within 10", x.near(1, 0, 10), 2);
        due("one of the other", x.near(0, 1, 10), 1);
        due("one at air", x.near(1, 2, 0), 1);
        due("all within 999", x.near(1, 0, 999), 3);
        due("none of none", x.near(0, 2, 499), 0);
        thrown("near element", INDEX, () -> x.near(3, 0, 1000));
        thrown("near element -1", INDEX, () -> x.near(-1, 0, 0));
        thrown("near of", INDEX, () -> x.near(0, 3, 1000));
        thrown("near of -1", INDEX, () -> x.near(0, -1, 0));
        thrown("near by", ILLEGAL, () -> x.near(0, 0, 1000));
        thrown("near by -1", ILLEGAL, () -> x.near(0, 0, -1));
    }

    private static void dueRight(String text) {
        RainbowPlate x = new RainbowPlate();
        Checks.put(x, text);
        due("claim " + text, x.claim(), 0);
        due("fault of " + text, x.fault(), -1);
        due("the tape is used up by " + text, x.end(1), false);
    }

    private static void dueWrong(String text, int at) {
        RainbowPlate x = new RainbowPlate();
        Checks.put(x, text);
        thrown("claim " + text, ILLEGAL, x::claim);
        due("fault of " + text, x.fault(), at);
        due("none came of " + text, x.count(7), 0);
        due("the tape is used up by " + text, x.end(1), false);
    }

    // Promise 44
    private static void claims() {
        dueRight("may 0");
        dueRight("may0");
        dueRight("  sure   5  ");
        dueRight("sets<1");
        dueRight("sets<1or may1and sure2");
        dueRight("9999 > 0000");
        dueRight("readings + ghosts + laws + 1 > fewest + 2");
        dueRight("not(may 0)");
        dueRight("((((((may 0))))))");
        dueRight("not not not not not not may 0");
        dueRight("not (not (not (may 0))) and not (not (not (may 0)))");
        dueRight("not1<2");
        dueRight("(may 0 or may 1) and (may 2 or (sets > 3))");
        dueRight("1<2 and 1<2 or 1<2 and 1<2");
        StringBuilder longest = new StringBuilder("1");
        while (longest.length() < 398) {
            longest.append("+1");
        }
        dueRight(longest.substring(0, 397) + ">1");
        dueRight(longest.substring(0, 395) + "<laws");
        dueRight("may 03");
        RainbowPlate x = new RainbowPlate();
        for (int n = 0; n < 6; n++) {
            Checks.put(x, "may 0");
            due("claim " + n, x.claim(), n);
        }
        Checks.put(x, "may");
        thrown("a wrong 7th", ILLEGAL, x::claim);
        due("its fault", x.fault(), 3);
        Checks.put(x, "may 0");
        thrown("a 7th", FULL, x::claim);
        due("nothing was wrong in it", x.fault(), -1);
        due("the tape is used up", x.end(1), false);
        due("six stay", x.count(7), 6);
    }

    // Promise 45
    private static void claimFaults() {
        dueWrong("", 0);
        dueWrong("(".repeat(400), 6);
        dueWrong("1" + " ".repeat(399), 400);
        dueWrong("1".repeat(400), 0);
        for (String word : new String[] {"nay 0", "xure 0", "xot may 0", "jets < 1", "tewest < 1", "headings < 1",
            "hhosts < 1", "jaws < 1"}) {
            dueWrong(word, 0);
        }
        dueWrong("may 0 xr may 0", 6);
        dueWrong("may 0 end may 0", 6);
        dueWrong("   ", 3);
        dueWrong("may", 3);
        dueWrong("may ", 4);
        dueWrong("may 6", 4);
        dueWrong("sure 10", 5);
        dueWrong("may x", 4);
        dueWrong("may (", 4);
        dueWrong("maybe 0", 0);
        dueWrong("ma 0", 0);
        dueWrong("May 0", 0);
        dueWrong("m", 0);
        dueWrong("notmay 0", 0);
        dueWrong("not", 3);
        dueWrong("not )", 4);
        dueWrong("or", 0);
        dueWrong("may 0 or", 8);
        dueWrong("may 0 and ", 10);
        dueWrong("may 0 or or", 9);
        dueWrong("may 0 and or may 1", 10);
        dueWrong("may 0 may 1", 6);
        dueWrong("may 0 orr may 1", 6);
        dueWrong("may 0 o may 1", 6);
        dueWrong("may 0 )", 6);
        dueWrong("(may 0", 6);
        dueWrong("(may 0 ", 7);
        dueWrong("(may 0 1", 7);
        dueWrong("()", 1);
        dueWrong("(sets) < 1", 5);
        dueWrong("sets", 4);
        dueWrong("sets + ", 7);
        dueWrong("sets + < 1", 7);
        dueWrong("sets sets", 5);
        dueWrong("sets =", 5);
        dueWrong("sets < ", 7);
        dueWrong("sets < 1 < 2", 9);
        dueWrong("sets < 1 +", 10);
        dueWrong("sets < may 0", 7);
        dueWrong("sets < not", 7);
        dueWrong("setss < 1", 0);
        dueWrong("set < 1", 0);
        dueWrong("12345 < 1", 0);
        dueWrong("00001 < 1", 0);
        dueWrong("1 < 12345", 4);
        dueWrong("may 00000", 4);
        dueWrong("1 < 1 5", 6);
        dueWrong("1,< 1", 1);
        dueWrong("1\t< 1", 1);
        dueWrong("\u0000may 0", 0);
        dueWrong("may 0\u00E4", 5);
        dueWrong("may \u00B0", 4);
        dueWrong("(((((((may 0)))))))", 6);
        dueWrong("((( not ( not ( may 0", 14);
        dueWrong("not not not (((( may 0))))", 15);
        dueWrong("((((((not may 0))))))", 6);
        dueWrong("not not not not not not not may 0", 24);
        dueWrong("not not not not not not ( may 0 )", 24);
        dueWrong("((((((may 0)))))) or (((((((may 0)))))))", 27);
        RainbowPlate x = new RainbowPlate();
        Checks.put(x, "may 9");
        thrown("wrong", ILLEGAL, x::claim);
        due("fault stays", x.fault() + x.fault(), 8);
        x.image();
        Checks.put(x, "may 1");
        x.claim();
        due("a right one takes it away", x.fault(), -1);
        Checks.put(x, "(");
        thrown("wrong again", ILLEGAL, x::claim);
        x.back();
        due("back leaves fault", x.fault(), 1);
    }

    private static boolean judged(RainbowPlate x, int plate, String text) {
        x.image();
        Checks.put(x, text);
        boolean answer = x.holds(x.claim(), plate);
        x.back();
        return answer;
    }

    private static void dueHolds(RainbowPlate x, int plate, String text, boolean want) {
        due(text + " of " + plate, judged(x, plate, text), want);
    }

    // Promise 46
    private static void claimValues() {
        RainbowPlate x = Make.exact();
        x.plate(9, 5, 1000, 9999, 20);
        x.plate(9, 5, 1000, 9999, 0);
        x.element(false);
        x.element(true);
        x.element(false);
        x.line(0, 2000, 9);
        x.line(2, 2000, 9);
        x.reading(0, 200, false, 9, 1);
        x.reading(0, 220, false, 1, 1);
        x.reading(1, 300, false, 1, 1);
        // of plate 0: sets 1, 4, 5; of plate 1 none
        dueHolds(x, 0, "sets > 2 and sets < 4", true);
        dueHolds(x, 1, "sets < 1", true);
        dueHolds(x, 0, "fewest > 0 and fewest < 2", true);
        dueHolds(x, 1, "fewest > 98 and fewest < 100", true);
        dueHolds(x, 0, "readings > 1 and readings < 3", true);
        dueHolds(x, 1, "readings > 0 and readings < 2", true);
        dueHolds(x, 0, "ghosts > 0 and ghosts < 2", true);
        dueHolds(x, 1, "ghosts < 1", true);
        dueHolds(x, 0, "laws > 0 and laws < 2", true);
        dueHolds(x, 0, "may 0 and may 2", true);
        dueHolds(x, 0, "may 1", false);
        dueHolds(x, 0, "may 5", false);
        dueHolds(x, 0, "sure 0", false);
        dueHolds(x, 1, "may 0 or may 2 or sure 0 or sure 2 or sure 1", false);
        dueHolds(x, 0, "1 < 1 or 1 > 1", false);
        dueHolds(x, 0, "1 < 2", true);
        dueHolds(x, 0, "2 < 1", false);
        dueHolds(x, 0, "2 > 1", true);
        dueHolds(x, 0, "1 + 2 + 3 > 5", true);
        dueHolds(x, 0, "1 + 2 + 3 > 6", false);
        dueHolds(x, 0, "6 < 1 + 2 + 3", false);
        dueHolds(x, 0, "5 < 1 + 2 + 3", true);
        dueHolds(x, 0, "0100 > 99", true);
        dueHolds(x, 0, "1 > 2 and 1 > 2 or 1 < 2", true);
        dueHolds(x, 0, "1 < 2 or 1 > 2 and 1 > 2", true);
        dueHolds(x, 0, "(1 < 2 or 1 > 2) and 1 > 2", false);
        dueHolds(x, 0, "not 1 > 2 and 1 > 2", false);
        dueHolds(x, 0, "not (1 > 2 and 1 > 2)", true);
        dueHolds(x, 0, "not not 1 < 2", true);
        dueHolds(x, 0, "not 2 < 1", true);
        dueHolds(x, 0, "not 2 > 1", false);
        dueHolds(x, 0, "not 1 < 2 or 1 < 2", true);
        dueHolds(x, 0, "not (not (not (1 < 2)))", false);
        dueHolds(x, 0, "1>2 or (1<2 and (1>2 or (1<2 and (1>2 or (1<2 and (1>2 or 1+1<1+2)))))"
            + ")", true);
        x.line(2, 2500, 9);
        // now 2 misses one on plate 0 and explains neither
        dueHolds(x, 0, "sure 0 and not may 2", true);
        dueHolds(x, 1, "sets + 1 > 1", false);
        RainbowPlate y = new RainbowPlate();
        y.plate(1, 1, 1000, 9999, 0);
        dueHolds(y, 0, "laws < 9999 or laws > 9999", false);
        dueHolds(y, 0, "laws > 9998", true);
        y.element(false);
        Checks.put(y, "may 0");
        y.claim();
        due("may 0 now", y.holds(0, 0), true);
        y.line(0, 5000, 9);
        y.plate(9, 5, 1000, 9999, 0);
        due("and on a plate where it is missed", y.holds(0, 1), false);
        thrown("holds claim", INDEX, () -> y.holds(1, 0));
        thrown("holds claim -1", INDEX, () -> y.holds(-1, 0));
        thrown("holds plate", INDEX, () -> y.holds(0, 2));
        thrown("holds plate -1", INDEX, () -> y.holds(0, -1));
    }

    // Promises 47, 48
    private static void image() {
        RainbowPlate x = Make.exact();
        due("back without one", x.back(), false);
        x.screw(20, 1, 2, 3);
        x.gauge(1, false, 2, false, 1);
        x.element(false);
        x.line(0, 2000, 5);
        x.plate(5, 5, 1000, 9999, 7);
        x.reading(0, 200, true, 5, 5);
        x.maker();
        x.recipe(0, 0, 2, 3);
        Checks.put(x, "may 0");
        x.claim();
        int laws = x.laws();
        int fits = x.fits();
        int least = x.look(0, 6);
        x.feed(1, 2, 3, 4, 5);
        x.image();
        x.error(50);
        x.screw(10, 9, 9, 9);
        x.gauge(1, false, 2, false, 9);
        x.known(300, true, 5000, true);
        x.element(true);
        x.line(0, 3000, 9);
        x.line(1, 3000, 9);
        x.plate(1, 1, 1000, 1000, 1);
        x.away();
        x.reading(1, 0, false, 9, 9);
        x.reading(1, 1, false, 9, 9);
        x.maker();
        x.recipe(0, 0, 8, 9);
        x.feed(1, 2, 3, 4, 5);
        Checks.put(x, "may 1");
        x.claim();
        x.feed(1, 2, 3, 4, 5);
        x.laws();
        x.sets(0, 0);
        for (int round = 0; round < 2; round++) {
            due("back", x.back(), true);
            int[] want = {1, 2, 1, 1, 1, 1, 0, 1, 0, 1, 1};
            for (int what = 0; what < want.length; what++) {
                due("count " + what + " after back", x.count(what), want[what]);
            }
            due("laws after back", x.laws(), laws);
            due("fits after back", x.fits(), fits);
            due("place after back", x.look(0, 1), 200);
            due("plate after back", x.look(0, 0), 0);
            due("down after back", x.look(0, 2), 1);
            due("strength after back", x.look(0, 3), 5);
            due("width after back", x.look(0, 4), 5);
            due("span after back", x.look(0, 6), least);
            due("truly after back", x.truly(2, true), 6);
            due("recipe after back", x.chance(0, 1, 0, false) * 10 + x.chance(0, 1, 0, true), 29);
            due("the claim after back", x.holds(0, 0), judged(x, 0, "may 0"));
            due("the line after back", x.lies(0, 0, 0), 2000);
            due("the plate after back", x.next(1, 0, 1000, 9999), 23);
            x.line(0, 4000, 9);
            x.element(false);
            x.error(9);
            // judged kept an image of the same state
        }
        due("the tape is not of the image: what judged left", x.end(1), false);
        RainbowPlate y = new RainbowPlate();
        y.image();
        y.feed(1, 2, 3, 4, 5);
        due("back to a new one", y.back(), true);
        due("its tape stays", y.end(20), true);
        y.element(false);
        y.image();
        y.element(false);
        y.back();
        due("the latest image", y.count(2), 1);
        thrown("a call that throws", ILLEGAL, () -> y.error(77));
        due("changes nothing", y.count(8), 2);
    }

    // Promise 49
    private static void counts() {
        RainbowPlate x = Make.exact();
        x.gauge(0, false, 0, false, 0);
        x.element(false);
        x.element(false);
        x.element(true);
        x.line(0, 2000, 1);
        x.line(0, 2000, 1);
        x.line(2, 2000, 1);
        x.line(1, 2000, 1);
        x.plate(1, 1, 1000, 1000, 10);
        x.plate(1, 1, 1000, 1000, 10);
        x.reading(0, 0, false, 7, 1);
        x.reading(0, 10, false, 7, 1);
        x.reading(0, 19, false, 1, 1);
        x.reading(1, 20, false, 1, 1);
        x.reading(1, 0, false, 1, 1);
        x.maker();
        x.maker();
        Checks.put(x, "1 < 2");
        x.claim();
        int[] want = {1, 2, 3, 4, 2, 5, 3, 1, 0, 5, 2};
        for (int what = 0; what < want.length; what++) {
            due("count(" + what + ")", x.count(what), want[what]);
        }
        due("count(-1)", x.count(-1), -1);
        due("count(11)", x.count(11), -1);
    }
}
