import java.util.NoSuchElementException;

/** What the tests by promise share, in short words. */
abstract class Edges {
    static final Class<IllegalArgumentException> ILLEGAL = IllegalArgumentException.class;
    static final Class<UnsupportedOperationException> FULL = UnsupportedOperationException.class;
    static final Class<IndexOutOfBoundsException> INDEX = IndexOutOfBoundsException.class;
    static final Class<NoSuchElementException> NO_SUCH = NoSuchElementException.class;

    static void due(String what, long got, long want) {
        Checks.due(what, got, want);
    }

    static void due(String what, boolean got, boolean want) {
        Checks.due(what, got, want);
    }

    static void thrown(String what, Class<? extends RuntimeException> want, Checks.Call call) {
        Checks.thrown(what, want, call);
    }

    /** Where there is something of each kind, and room for more. */
    static void refused(String what, Class<? extends RuntimeException> want, Checks.Deed deed) {
        Checks.refused(what, want, Make::rich, deed);
    }

    /** Where there is no room for more. */
    static void refusedByFull(String what, Class<? extends RuntimeException> want, Checks.Deed deed) {
        Checks.refused(what, want, Make::full, deed);
    }

    /** Where there is nothing yet. */
    static void refusedByFresh(String what, Class<? extends RuntimeException> want, Checks.Deed deed) {
        Checks.refused(what, want, Make::fresh, deed);
    }
}
