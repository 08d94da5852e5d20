/** Objects that the tests begin with. */
final class Make {
    private Make() {
    }

    static RainbowPlate fresh() {
        return new RainbowPlate();
    }

    /** One law alone holds: the wave at a true place is 1000 and 5 for each tick. */
    static RainbowPlate exact() {
        RainbowPlate x = new RainbowPlate();
        x.error(0);
        x.known(0, false, 1000, false);
        x.known(100, false, 1500, false);
        return x;
    }

    /** The same law, a plate on which each line must be seen, and element 0 without lines. */
    static RainbowPlate bright() {
        RainbowPlate x = exact();
        x.plate(9, 5, 1000, 9999, 0);
        x.element(false);
        return x;
    }

    /** The same, but no line must be seen. */
    static RainbowPlate faint() {
        RainbowPlate x = exact();
        x.plate(1, 1, 1000, 9999, 0);
        x.element(false);
        return x;
    }

    /** A bright plate on which no law holds, so that no reading has a span. */
    static RainbowPlate lawless() {
        RainbowPlate x = bright();
        x.known(0, false, 9000, false);
        return x;
    }

    /** Readings at waves; 2000 has the number 5000, 2500 has 4000, 4000 has 2500, 5000 has 2000. */
    static RainbowPlate waves(int... waves) {
        RainbowPlate x = faint();
        for (int wave : waves) {
            x.reading(0, (wave - 1000) / 5, false, 1, 1);
        }
        return x;
    }

    /** Something of each kind, an image of less, a fault, and a text on the tape. */
    static RainbowPlate rich() {
        RainbowPlate x = new RainbowPlate();
        x.screw(7, 2, 3, 4);
        x.gauge(100, false, 107, true, 11);
        x.known(0, false, 1000, false);
        x.known(100, false, 1500, true);
        x.element(false);
        x.element(true);
        x.line(0, 2000, 9);
        x.line(0, 2500, 3);
        x.line(1, 3000, 6);
        x.plate(5, 2, 1500, 4500, 20);
        x.reading(0, 200, false, 9, 1);
        x.reading(0, 220, true, 2, 3);
        x.maker();
        x.recipe(0, 0, 2, 5);
        Checks.put(x, "may 0 or sets > 1");
        x.claim();
        x.image();
        x.error(3);
        x.element(false);
        x.line(2, 2600, 5);
        x.plate(1, 1, 1000, 9999, 0);
        x.reading(1, 400, false, 1, 2);
        x.maker();
        x.recipe(1, 2, 0, 3);
        Checks.put(x, "readings + ghosts > laws");
        x.claim();
        Checks.put(x, "may 6");
        try {
            x.claim();
        } catch (IllegalArgumentException e) {
            // fault() tells of this text from here on
        }
        Checks.put(x, "not 7 < 8 or may 2");
        return x;
    }

    /** As many of each kind as there may be, but for the tape, which has a right text. */
    static RainbowPlate full() {
        RainbowPlate x = new RainbowPlate();
        x.screw(7, 2, 3, 4);
        for (int n = 0; n < 8; n++) {
            x.gauge(100 + n, false, 107 + n, true, 11);
        }
        for (int n = 0; n < 10; n++) {
            x.known(100 * n, false, 1000 + 500 * n, n % 2 == 0);
        }
        for (int e = 0; e < 6; e++) {
            x.element(e == 4);
            for (int l = 0; l < 6; l++) {
                x.line(e, 1500 + 100 * l + 700 * e, 1 + l);
            }
        }
        for (int n = 0; n < 3; n++) {
            x.plate(5 + n, 2 + n, 1500, 4500, 20 * n);
        }
        for (int n = 0; n < 24; n++) {
            x.reading(n % 3, 100 + 40 * (n / 2) % 900, n % 2 == 0, 1 + n % 9, 1 + n % 8);
        }
        for (int m = 0; m < 4; m++) {
            x.maker();
            x.recipe(m, m, 0, 3 + m);
        }
        for (int n = 0; n < 6; n++) {
            Checks.put(x, n % 2 == 0 ? "may 0 or sets > 1" : "readings + ghosts > 9");
            x.claim();
        }
        x.image();
        Checks.put(x, "not 7 < 8 or may 2");
        return x;
    }
}
