import java.util.ArrayList;
import java.util.List;

/**
 * What can be asked of an object, to see that a call has changed nothing. The object is used up by it: how many
 * there are of each thing is asked once, so that with all that made the object it stays within 512 calls.
 */
final class State {
    private final RainbowPlate x;
    private final int[] many = new int[11];
    private final List<String> rows = new ArrayList<>();

    private State(RainbowPlate x) {
        this.x = x;
    }

    static List<String> of(RainbowPlate x) {
        State state = new State(x);
        state.put("fault", x.fault());
        state.counts("");
        state.instrument();
        state.tables();
        state.plates();
        state.image();
        state.tape();
        return state.rows;
    }

    private void put(String what, int answer) {
        rows.add(what + " = " + answer);
    }

    private void put(String what, boolean answer) {
        rows.add(what + " = " + answer);
    }

    private void counts(String when) {
        for (int what = 0; what <= 10; what++) {
            many[what] = x.count(what);
            put("count(" + what + ")" + when, many[what]);
        }
    }

    private void instrument() {
        for (int place = 0; place <= 50; place++) {
            put("truly " + place, x.truly(place, false));
        }
        put("truly down", x.truly(0, true));
        int fits = x.fits();
        put("fits", fits);
        put("first fit", x.fit(0));
        put("middle fit", x.fit(fits / 2));
        put("last fit", x.fit(fits - 1));
        put("laws", x.laws());
        for (int what = 0; what < 3; what++) {
            put("law " + what, x.law(what));
        }
        put("least at 0", x.span(0, false, false));
        put("greatest at 0", x.span(0, false, true));
        put("least at 999", x.span(999, true, false));
        put("greatest at 999", x.span(999, true, true));
        put("slipped", x.slipped());
    }

    private int linesOf(int element) {
        for (int line = 0; line < 6; line++) {
            try {
                put("lies " + element + " " + line, x.lies(element, line, 50));
            } catch (IndexOutOfBoundsException e) {
                return line;
            }
        }
        return 6;
    }

    private void tables() {
        for (int e = 0; e < many[2]; e++) {
            int lines = linesOf(e);
            for (int l = 0; l < lines && many[4] > 0; l++) {
                put("must " + e + " " + l, x.must(0, e, l));
            }
        }
        for (int r = 0; r < many[5]; r++) {
            for (int what = 0; what < 5; what++) {
                put("look " + r + " " + what, x.look(r, what));
            }
        }
        put("next", x.next(1, 4, 1000, 9999));
    }

    private void plates() {
        for (int p = 0; p < many[4]; p++) {
            for (int what = 0; what < 4; what++) {
                put("sets " + p + " " + what, x.sets(p, what));
            }
            put("wide " + p, x.wide(p, -1, false));
            for (int c = 0; c < many[7]; c++) {
                put("holds " + c + " " + p, x.holds(c, p));
            }
        }
        for (int m = 0; m < many[10] && many[4] > 0; m++) {
            put("above " + m, x.chance(0, -1, m, false));
            put("below " + m, x.chance(0, -1, m, true));
            put("above, by element 0 alone, " + m, x.chance(0, 1, m, false));
        }
    }

    private void image() {
        put("back", x.back());
        counts(" after back");
        put("least at 0 after back", x.span(0, false, false));
    }

    private void tape() {
        int length = x.feed(0, 0, 0, 0, 0);
        put("feed", length);
        put("end", x.end(length == RainbowPlate.NONE ? 400 : length - 20));
        try {
            put("claim", x.claim());
        } catch (RuntimeException e) {
            rows.add("claim threw " + e.getClass());
        }
        put("fault of the tape", x.fault());
    }
}
