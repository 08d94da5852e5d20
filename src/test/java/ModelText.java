import java.util.ArrayDeque;
import java.util.ArrayList;
import java.util.Deque;
import java.util.List;
import java.util.Set;
import java.util.regex.Matcher;
import java.util.regex.Pattern;

/**
 * A claim's text, read sign by sign: what may come next hangs on where one stands and on what is open. (The class
 * reads by descending through the grammar, so that both are not wrong in the same way.)
 */
final class ModelText {
    private enum Place { ATOM, ELEMENT, PART, BEHIND_PART, BEHIND_ATOM, NOWHERE }

    private static final Pattern SIGN = Pattern.compile("[a-z]+|[0-9]+|[^ ]", Pattern.DOTALL);
    private static final Set<String> WORDS = Set.of("sets", "fewest", "readings", "ghosts", "laws");

    final List<String> signs = new ArrayList<>();
    private final String text;
    private final Deque<String> open = new ArrayDeque<>();
    private boolean compared;

    ModelText(String text) {
        this.text = text;
    }

    /** -1 if the text is right. */
    int firstWrong() {
        Place place = Place.ATOM;
        Matcher m = SIGN.matcher(text);
        while (m.find()) {
            signs.add(m.group());
            place = behind(place, m.group());
            if (place == Place.NOWHERE) {
                return m.start();
            }
        }
        boolean ended = place == Place.BEHIND_ATOM || place == Place.BEHIND_PART && compared;
        closeNots();
        return ended && open.isEmpty() ? -1 : text.length();
    }

    private static boolean isNumber(String sign) {
        return sign.matches("[0-9]{1,4}");
    }

    private static boolean isPart(String sign) {
        return isNumber(sign) || WORDS.contains(sign);
    }

    /** Where one stands with the sign taken. */
    private Place behind(Place place, String sign) {
        switch (place) {
            case ATOM: return behindAtBegin(sign);
            case ELEMENT: return isNumber(sign) && Integer.parseInt(sign) <= 5 ? Place.BEHIND_ATOM : Place.NOWHERE;
            case PART: return isPart(sign) ? Place.BEHIND_PART : Place.NOWHERE;
            case BEHIND_PART: return behindPart(sign);
            default: return behindAtom(sign);
        }
    }

    private Place behindAtBegin(String sign) {
        compared = false;
        if (sign.equals("(") || sign.equals("not")) {
            open.push(sign);
            return open.size() <= 6 ? Place.ATOM : Place.NOWHERE;
        }
        if (sign.equals("sure") || sign.equals("may")) {
            return Place.ELEMENT;
        }
        return isPart(sign) ? Place.BEHIND_PART : Place.NOWHERE;
    }

    private Place behindPart(String sign) {
        if (sign.equals("+")) {
            return Place.PART;
        }
        if (compared) {
            return behindAtom(sign);
        }
        compared = true;
        return sign.equals("<") || sign.equals(">") ? Place.PART : Place.NOWHERE;
    }

    private Place behindAtom(String sign) {
        closeNots();
        if (sign.equals("and") || sign.equals("or")) {
            return Place.ATOM;
        }
        if (sign.equals(")") && !open.isEmpty()) {
            open.pop();
            return Place.BEHIND_ATOM;
        }
        return Place.NOWHERE;
    }

    private void closeNots() {
        while (!open.isEmpty() && open.peek().equals("not")) {
            open.pop();
        }
    }

    /** What stands between the signs of that kind that are in no parentheses. */
    static List<List<String>> split(List<String> signs, String by) {
        List<List<String>> parts = new ArrayList<>();
        parts.add(new ArrayList<>());
        int deep = 0;
        for (String sign : signs) {
            deep += sign.equals("(") ? 1 : sign.equals(")") ? -1 : 0;
            if (deep == 0 && sign.equals(by)) {
                parts.add(new ArrayList<>());
            } else {
                parts.get(parts.size() - 1).add(sign);
            }
        }
        return parts;
    }
}
