import java.util.Random;

/** Texts by chance: whole ones, and ones in which something is wrong. */
final class Texts {
    private final Random random;

    Texts(Random random) {
        this.random = random;
    }

    private int upTo(int most) {
        return random.nextInt(most + 1);
    }

    String will(int things, int heirs, int steps) {
        StringBuilder text = new StringBuilder();
        int t = 1 + upTo(things - 1);
        int h = 1 + upTo(heirs - 1);
        int g = Math.max(0, upTo(6) - 2);
        boolean dull = random.nextBoolean();
        int trades = 1 + upTo(4);
        while (t + h + g > 0) {
            int pick = upTo(t + h + g - 1);
            text.append(text.length() == 0 ? "" : ";");
            if (pick < t) {
                text.append(thing(steps, trades, dull));
                t--;
            } else if (pick < t + h) {
                text.append(heir(trades));
                h--;
            } else {
                text.append('g').append((char) ('a' + upTo(trades - 1)));
                g--;
            }
        }
        return text.length() > 240 ? will(things, heirs, steps) : text.toString();
    }

    private String thing(int most, int trades, boolean dull) {
        int steps = 1 + upTo(most - 1);
        StringBuilder text = new StringBuilder("t");
        for (char item : shuffled("vrd").toCharArray()) {
            if (upTo(2) > 0) {
                int number = item == 'v' ? (dull ? upTo(3) : upTo(99)) : item == 'r' ? 1 + upTo(39) : upTo(steps) / 2;
                number = item == 'd' && upTo(15) == 0 ? steps : number;
                text.append(item).append(upTo(9) == 0 && number < 10 ? "0" : "").append(number);
            }
        }
        text.append(':');
        for (int s = 0; s < steps; s++) {
            text.append((char) ('a' + upTo(trades - 1))).append(1 + upTo(upTo(2) == 0 ? 8 : 2));
        }
        return text.toString();
    }

    private String heir(int trades) {
        StringBuilder text = new StringBuilder("h");
        for (char item : shuffled("abcdek").toCharArray()) {
            if ((item == 'k' || item < 'a' + trades) && upTo(4) > 0) {
                text.append(item).append(upTo(9));
            }
        }
        return text.toString();
    }

    private String shuffled(String letters) {
        StringBuilder text = new StringBuilder(letters);
        for (int k = text.length() - 1; k > 0; k--) {
            int other = upTo(k);
            char one = text.charAt(k);
            text.setCharAt(k, text.charAt(other));
            text.setCharAt(other, one);
        }
        return text.toString();
    }

    String law() {
        StringBuilder text = new StringBuilder();
        int clauses = 1 + upTo(2);
        for (int k = 0; k < clauses; k++) {
            text.append(k == 0 ? "" : ";").append("y:");
            if (upTo(3) > 0) {
                text.append(condition(upTo(3))).append('?');
            }
            text.append(sum(upTo(3)));
        }
        return text.length() > 240 ? law() : text.toString();
    }

    private String condition(int deep) {
        StringBuilder text = new StringBuilder(unit(deep));
        for (int more = upTo(3); more > 1; more--) {
            text.append(upTo(1) == 0 ? '&' : '|').append(unit(deep));
        }
        return text.toString();
    }

    private String unit(int deep) {
        int sort = deep > 0 ? upTo(3) : 3;
        if (sort == 0) {
            return "!" + unit(deep - 1);
        }
        return sort == 1 ? "(" + condition(deep - 1) + ")" : sum(deep) + "=<>".charAt(upTo(2)) + sum(deep);
    }

    private String sum(int deep) {
        StringBuilder text = new StringBuilder(atom(deep));
        for (int more = upTo(3); more > 1; more--) {
            text.append("+-*/".charAt(upTo(3))).append(atom(deep));
        }
        return text.toString();
    }

    private String atom(int deep) {
        if (deep > 0 && upTo(3) == 0) {
            return "[" + sum(deep - 1) + "]";
        }
        if (upTo(2) == 0) {
            return Integer.toString(upTo(5) == 0 ? upTo(9999) : upTo(9));
        }
        return Character.toString((upTo(1) == 0 ? "pci" : "vksdnpci").charAt(upTo(1) == 0 ? upTo(2) : 0));
    }

    String beginning() {
        StringBuilder text = new StringBuilder();
        for (int k = 1 + upTo(11); k > 0; k--) {
            text.append(upTo(9));
        }
        return text.toString();
    }

    String blanks(String text) {
        StringBuilder wide = new StringBuilder();
        for (int k = 0; k < text.length(); k++) {
            boolean inNumber = k > 0 && Character.isDigit(text.charAt(k)) && Character.isDigit(text.charAt(k - 1));
            wide.append(!inNumber && upTo(3) == 0 ? " " : "").append(text.charAt(k));
        }
        wide.append(upTo(3) == 0 ? " " : "");
        return wide.length() > 240 ? text : wide.toString();
    }

    /** One sign put in, taken out, changed or cut off behind. */
    String spoilt(String text, String signs) {
        StringBuilder worse = new StringBuilder(text);
        int at = upTo(Math.max(0, text.length() - 1));
        char sign = signs.charAt(upTo(signs.length() - 1));
        int how = upTo(4);
        if (how == 0 || text.isEmpty()) {
            worse.insert(at, sign);
        } else if (how == 1) {
            worse.deleteCharAt(at);
        } else if (how == 2) {
            worse.setCharAt(at, sign);
        } else if (how == 3) {
            worse.setLength(at);
        } else {
            worse.insert(at, text.charAt(at));
        }
        return worse.length() > 240 ? text : worse.toString();
    }
}
