import java.util.ArrayDeque;
import java.util.HashSet;
import java.util.Set;
import java.util.regex.Matcher;
import java.util.regex.Pattern;

/**
 * FAULTS found in another way than by reading on: a text is taken or not as a whole, and the first byte at which it
 * can't go on is the first behind which none of a few endings makes a whole text of it.
 */
final class Faults {
    private static final String[] WILL_ENDINGS = {"", ":a1", "1:a1", "1", "a1", "a", "t:a1", "h", "ga"};
    private static final String[] LAW_ENDINGS = {"", "1", "1=1", "y:1", ":1", "v"};

    private Faults() {
    }

    static int of(int sort, String text) {
        return sort == 0 ? ofWill(text) : sort == 1 ? ofLaw(text) : ofBeginning(text);
    }

    static int ofBeginning(String text) {
        for (int k = 1; k <= text.length(); k++) {
            if (!text.substring(0, k).matches(" *([0-9] *){0,12}")) {
                return k - 1;
            }
        }
        return text.trim().isEmpty() ? text.length() : -1;
    }

    // ---- WILL ----

    static int ofWill(String text) {
        int stop = text.length();
        for (int k = 1; k <= text.length() && stop == text.length(); k++) {
            if (!goesOn(text.substring(0, k))) {
                stop = k - 1;
            }
        }
        int bound = firstOutOfBounds(text, stop);
        if (bound >= 0) {
            return bound;
        }
        if (stop < text.length()) {
            return stop;
        }
        return isWill(text) && !isOverdone(text) ? -1 : text.length();
    }

    private static boolean goesOn(String ahead) {
        for (String ending : WILL_ENDINGS) {
            for (String t : new String[] {"", ";t:a1"}) {
                for (String h : new String[] {"", ";h"}) {
                    if (isWill(ahead + ending + t + h)) {
                        return true;
                    }
                }
            }
        }
        return false;
    }

    /** Whole but for bounds of ITEMS: those are looked at apart, since they are wrong at a last digit. */
    private static boolean isWill(String text) {
        if (text.matches("(?s).*[0-9] +[0-9].*")) {
            return false;
        }
        int t = 0;
        int h = 0;
        int g = 0;
        for (String clause : text.replace(" ", "").split(";", -1)) {
            if (clause.matches("t([vrd][0-9]{1,2})*:([a-e][1-9]){1,8}") && once(clause.split(":")[0])) {
                t++;
            } else if (clause.matches("h([abcdek][0-9]{1,2})*") && once(clause)) {
                h++;
            } else if (clause.matches("g[a-e]")) {
                g++;
            } else {
                return false;
            }
        }
        return t >= 1 && t <= 6 && h >= 1 && h <= 6 && g <= 4;
    }

    private static boolean once(String clause) {
        Set<Character> seen = new HashSet<>();
        for (char one : clause.toCharArray()) {
            if (Character.isLetter(one) && !seen.add(one)) {
                return false;
            }
        }
        return true;
    }

    private static final Pattern ITEM = Pattern.compile("([a-z]) *([0-9]+)");

    private static int firstOutOfBounds(String text, int stop) {
        int from = 0;
        for (String clause : text.split(";", -1)) {
            Matcher item = ITEM.matcher(clause);
            boolean ofThing = clause.trim().startsWith("t");
            int colon = clause.indexOf(':');
            while (item.find()) {
                int last = from + item.end() - 1;
                boolean ofStep = ofThing && colon >= 0 && item.start() > colon;
                if (!ofStep && last < stop && !isWithin(item.group(1).charAt(0), item.group(2), ofThing)) {
                    return last;
                }
            }
            from += clause.length() + 1;
        }
        return -1;
    }

    private static boolean isWithin(char letter, String digits, boolean ofThing) {
        int number = Integer.parseInt(digits);
        if (!ofThing) {
            return number <= 9;
        }
        return letter == 'v' ? number <= 99 : letter == 'r' ? number >= 1 && number <= 99 : number <= 8;
    }

    private static boolean isOverdone(String text) {
        for (String clause : text.replace(" ", "").split(";")) {
            Matcher done = Pattern.compile("t.*d([0-9]+).*:(.*)").matcher(clause);
            if (done.matches() && Integer.parseInt(done.group(1)) > done.group(2).length() / 2) {
                return true;
            }
        }
        return false;
    }

    // ---- LAW ----

    static int ofLaw(String text) {
        for (int k = 1; k <= text.length(); k++) {
            if (!lawGoesOn(text.substring(0, k))) {
                return k - 1;
            }
        }
        return isLaw(text) ? -1 : text.length();
    }

    private static boolean lawGoesOn(String ahead) {
        String brackets = "";
        String parens = "";
        String clause = ahead.substring(ahead.lastIndexOf(';') + 1);
        ArrayDeque<Character> open = new ArrayDeque<>();
        for (char one : clause.toCharArray()) {
            if (one == '(' || one == '[') {
                open.push(one);
            } else if ((one == ')' || one == ']') && !open.isEmpty()) {
                open.pop();
            }
        }
        for (char one : open) {
            brackets += one == '[' ? "]" : "";
            parens += one == '(' ? ")" : "";
        }
        for (String ending : LAW_ENDINGS) {
            for (String compared : new String[] {"", "=1"}) {
                for (String sum : new String[] {"", "?1"}) {
                    if (isLaw(ahead + ending + brackets + compared + parens + sum)) {
                        return true;
                    }
                }
            }
        }
        return false;
    }

    private static boolean isLaw(String text) {
        if (text.matches("(?s).*[0-9] +[0-9].*") || text.matches("(?s).*[0-9]{5}.*")) {
            return false;
        }
        for (String clause : text.replace(" ", "").split(";", -1)) {
            if (!isClause(clause) || deepest(clause) > 6) {
                return false;
            }
        }
        return true;
    }

    /** Shrinks what is whole to one sign, A for a SUM and U for a CONDITION, until nothing shrinks any more. */
    private static boolean isClause(String clause) {
        if (clause.matches("(?s).*[AU].*") || !clause.startsWith("y:")) {
            return false;
        }
        String rest = clause.substring(2).replaceAll("[0-9]+|[vksdnpci]", "A");
        if (rest.contains("AA")) {
            return false;
        }
        rest = shrink(rest, "A[-+*/]A", "A", "\\[A\\]", "A");
        rest = rest.replaceAll("A[=<>]A", "U");
        rest = shrink(rest, "!U", "U", "U[&|]U|\\(U\\)", "U");
        return rest.equals("A") || rest.equals("U?A");
    }

    private static String shrink(String text, String one, String by, String other, String byOther) {
        String was = "";
        String is = text;
        while (!was.equals(is)) {
            was = is;
            is = is.replaceAll(one, by).replaceAll(other, byOther);
        }
        return is;
    }

    private static int deepest(String clause) {
        ArrayDeque<Character> open = new ArrayDeque<>();
        int most = 0;
        for (char one : clause.toCharArray()) {
            if ("&|?)".indexOf(one) >= 0) {
                while (!open.isEmpty() && open.peek() == '!') {
                    open.pop();
                }
            }
            if ("([!".indexOf(one) >= 0) {
                open.push(one);
            } else if ((one == ')' || one == ']') && !open.isEmpty()) {
                open.pop();
            }
            most = Math.max(most, open.size());
        }
        return most;
    }
}
