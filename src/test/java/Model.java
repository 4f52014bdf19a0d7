import java.util.ArrayDeque;
import java.util.ArrayList;
import java.util.Arrays;
import java.util.Deque;
import java.util.List;

/** The document once more, in its plainest form: all that can be tried is tried. */
final class Model {
    static final int NONE = -1;
    static final int HIDDEN = -1000000;

    static final class Thing {
        int v = 10;
        int r = 30;
        int done;
        int got;
        int holder = NONE;
        int state;
        int on = NONE;
        int by = NONE;
        int[] trade;
        int[] need;

        Thing copy() {
            Thing t = new Thing();
            t.v = v;
            t.r = r;
            t.done = done;
            t.got = got;
            t.holder = holder;
            t.state = state;
            t.on = on;
            t.by = by;
            t.trade = trade;
            t.need = need;
            return t;
        }

        int steps() {
            return trade.length;
        }
    }

    static final class Now {
        List<Thing> things = new ArrayList<>();
        int[][] skill = new int[0][];
        int day;

        Now copy() {
            Now n = new Now();
            for (Thing t : things) {
                n.things.add(t.copy());
            }
            n.skill = new int[skill.length][];
            for (int h = 0; h < skill.length; h++) {
                n.skill[h] = skill[h].clone();
            }
            n.day = day;
            return n;
        }
    }

    String tape = "";
    Now now = new Now();
    Now picture;
    Deque<Now> acts = new ArrayDeque<>();
    int[] kin = new int[0];
    int[] tool = new int[5];
    int holds = NONE;
    List<String> laws = new ArrayList<>();
    List<String> beginnings = new ArrayList<>();
    List<int[]> endings = new ArrayList<>();

    // ---- texts ----

    int feed(int... words) {
        StringBuilder more = new StringBuilder(tape);
        for (int word : words) {
            for (byte one : java.nio.ByteBuffer.allocate(4).putInt(word).array()) {
                if (one != 0) {
                    more.append((char) (one & 255));
                }
            }
        }
        if (more.length() > 240) {
            return NONE;
        }
        tape = more.toString();
        return tape.length();
    }

    boolean end(int n) {
        if (n < 0 || n > tape.length()) {
            return false;
        }
        tape = tape.substring(0, n);
        return true;
    }

    int fault(int sort) {
        return sort < 0 || sort > 2 ? -2 : Faults.of(sort, tape);
    }

    int text(int sort) {
        if (sort < 0 || sort > 2 || Faults.of(sort, tape) != NONE) {
            return NONE;
        }
        if ((sort == 1 && laws.size() == 6) || (sort == 2 && beginnings.size() == 4)) {
            return NONE;
        }
        String text = tape.replace(" ", "");
        tape = "";
        if (sort == 1) {
            laws.add(text);
            return laws.size() - 1;
        }
        if (sort == 2) {
            beginnings.add(text);
            return beginnings.size() - 1;
        }
        putWill(text);
        return now.things.size();
    }

    private void putWill(String text) {
        now = new Now();
        picture = null;
        acts.clear();
        endings.clear();
        holds = NONE;
        tool = new int[5];
        List<int[]> skills = new ArrayList<>();
        List<Integer> kins = new ArrayList<>();
        for (String clause : text.split(";")) {
            if (clause.charAt(0) == 't') {
                String[] parts = clause.substring(1).split(":");
                Thing t = new Thing();
                t.v = item(parts[0], 'v', 10);
                t.r = item(parts[0], 'r', 30);
                t.done = item(parts[0], 'd', 0);
                t.trade = new int[parts[1].length() / 2];
                t.need = new int[parts[1].length() / 2];
                for (int s = 0; s < t.trade.length; s++) {
                    t.trade[s] = parts[1].charAt(2 * s) - 'a';
                    t.need[s] = parts[1].charAt(2 * s + 1) - '0';
                }
                if (t.done == t.steps()) {
                    t.state = 1;
                    t.on = 0;
                }
                now.things.add(t);
            } else if (clause.charAt(0) == 'h') {
                int[] skill = new int[5];
                for (int k = 0; k < 5; k++) {
                    skill[k] = item(clause.substring(1), (char) ('a' + k), 0);
                }
                skills.add(skill);
                kins.add(item(clause.substring(1), 'k', 0));
            } else {
                tool[clause.charAt(1) - 'a']++;
            }
        }
        now.skill = skills.toArray(new int[0][]);
        kin = kins.stream().mapToInt(Integer::intValue).toArray();
    }

    private static int item(String items, char letter, int without) {
        int at = items.indexOf(letter);
        if (at < 0) {
            return without;
        }
        int end = at + 1;
        while (end < items.length() && Character.isDigit(items.charAt(end))) {
            end++;
        }
        return Integer.parseInt(items.substring(at + 1, end));
    }

    // ---- what was told ----

    private boolean told() {
        return !now.things.isEmpty();
    }

    private boolean isThing(int t) {
        return t >= 0 && t < now.things.size();
    }

    private boolean isHeir(int h) {
        return h >= 0 && h < now.skill.length;
    }

    private boolean open(int t) {
        return isThing(t) && now.things.get(t).state == 0;
    }

    private int heirs() {
        return now.skill.length;
    }

    long thing(int t, int what) {
        if (!isThing(t) || what < 0 || what > 8) {
            return Check.THROWN;
        }
        Thing x = now.things.get(t);
        return new int[] {x.v, x.r, x.done, x.steps(), x.holder, x.state, x.got, x.on, x.by}[what];
    }

    int step(int t, int s, int what) {
        if (!isThing(t) || s < 0 || s >= now.things.get(t).steps() || what < 0 || what > 1) {
            return NONE;
        }
        return what == 0 ? now.things.get(t).trade[s] : now.things.get(t).need[s];
    }

    int heir(int h, int what) {
        if (!isHeir(h) || what < 0 || what > 6) {
            return NONE;
        }
        if (what == 6) {
            int bits = 0;
            for (int t = 0; t < now.things.size(); t++) {
                bits |= now.things.get(t).holder == h ? 1 << t : 0;
            }
            return bits;
        }
        return what == 5 ? kin[h] : now.skill[h][what];
    }

    int tools(int trade) {
        return told() && trade >= 0 && trade < 5 ? tool[trade] : NONE;
    }

    boolean law(int law) {
        if (!told() || law < NONE || law >= laws.size()) {
            return false;
        }
        holds = law;
        return true;
    }

    // ---- who can ----

    int takes(int h, int t, int s) {
        if (!isHeir(h) || step(t, s, 0) == NONE || now.skill[h][step(t, s, 0)] == 0) {
            return NONE;
        }
        int days = 0;
        for (int got = 0; got < 3 * step(t, s, 1); got += now.skill[h][step(t, s, 0)]) {
            days++;
        }
        return days;
    }

    private int from(int h, int t, int done) {
        int all = 0;
        for (int s = done; s < now.things.get(t).steps(); s++) {
            if (takes(h, t, s) == NONE) {
                return NONE;
            }
            all += takes(h, t, s);
        }
        return all;
    }

    int alone(int h, int t) {
        return isHeir(h) && open(t) ? from(h, t, now.things.get(t).done) : NONE;
    }

    private boolean inTime(int t, int days) {
        return days != NONE && now.day + days <= now.things.get(t).r;
    }

    int who(int t) {
        if (!open(t)) {
            return NONE;
        }
        int bits = 0;
        for (int h = 0; h < heirs(); h++) {
            bits |= inTime(t, alone(h, t)) ? 1 << h : 0;
        }
        return bits;
    }

    int stuck(int t) {
        if (open(t)) {
            for (int s = now.things.get(t).done; s < now.things.get(t).steps(); s++) {
                boolean can = false;
                for (int h = 0; h < heirs(); h++) {
                    can |= takes(h, t, s) != NONE;
                }
                if (!can) {
                    return s;
                }
            }
        }
        return NONE;
    }

    int team(int t, int set) {
        if (!open(t) || set < 0 || set >= 1 << heirs()) {
            return NONE;
        }
        int all = 0;
        for (int s = now.things.get(t).done; s < now.things.get(t).steps(); s++) {
            int least = 1000;
            for (int h = 0; h < heirs(); h++) {
                if ((set >> h & 1) == 1 && takes(h, t, s) != NONE) {
                    least = Math.min(least, takes(h, t, s));
                }
            }
            if (least == 1000) {
                return NONE;
            }
            all += least;
        }
        return all;
    }

    int helpers(int t) {
        for (int many = 1; many <= heirs(); many++) {
            for (int set = 1; set < 1 << heirs(); set++) {
                if (Integer.bitCount(set) == many && open(t) && inTime(t, team(t, set))) {
                    return set;
                }
            }
        }
        return NONE;
    }

    int sold() {
        if (!told()) {
            return NONE;
        }
        int all = 0;
        for (int t = 0; t < now.things.size(); t++) {
            if (who(t) == 0 && inTime(t, team(t, (1 << heirs()) - 1))) {
                all += now.things.get(t).v;
            }
        }
        return all;
    }

    // ---- acts ----

    private void act() {
        acts.push(now.copy());
        if (acts.size() > 40) {
            acts.removeLast();
        }
    }

    int give(int t, int h) {
        if (!open(t) || (h != NONE && !isHeir(h)) || now.things.get(t).holder == h) {
            return NONE;
        }
        act();
        now.things.get(t).holder = h;
        return acts.size();
    }

    int teach(int h, int trade) {
        if (!isHeir(h) || trade < 0 || trade > 4 || now.skill[h][trade] == 9) {
            return NONE;
        }
        act();
        return ++now.skill[h][trade];
    }

    int days(int n) {
        if (!told() || n < 1 || n > 99 || now.day + n > 999) {
            return NONE;
        }
        for (int k = 0; k < n; k++) {
            act();
            day();
        }
        return now.day;
    }

    private void day() {
        int[] free = tool.clone();
        for (int h = 0; h < heirs(); h++) {
            for (Thing t : now.things) {
                if (t.holder == h && t.state == 0 && now.skill[h][t.trade[t.done]] > 0) {
                    int trade = t.trade[t.done];
                    if (tool[trade] == 0 || free[trade]-- > 0) {
                        t.got += now.skill[h][trade];
                        if (t.got >= 3 * t.need[t.done]) {
                            t.done++;
                            t.got = 0;
                        }
                    }
                    break;
                }
            }
        }
        now.day++;
        for (Thing t : now.things) {
            if (t.state == 0 && t.done == t.steps()) {
                t.state = 1;
                t.on = now.day;
                t.by = t.holder;
            } else if (t.state == 0 && t.r <= now.day) {
                t.state = 2;
            }
        }
    }

    int generation(long seed) {
        if (!told()) {
            return NONE;
        }
        act();
        java.math.BigInteger x = java.math.BigInteger.valueOf(seed);
        java.math.BigInteger round = java.math.BigInteger.ONE.shiftLeft(64);
        int able = 0;
        for (int[] skill : now.skill) {
            for (int k = 0; k < 5; k++) {
                x = x.multiply(new java.math.BigInteger("6364136223846793005"))
                        .add(new java.math.BigInteger("1442695040888963407")).mod(round);
                int draw = x.shiftRight(33).mod(java.math.BigInteger.TEN).intValue();
                skill[k] = draw == 0 ? 0 : draw == 1 ? Math.min(9, skill[k] + 1) : skill[k];
                able += skill[k] > 0 ? 1 : 0;
            }
        }
        for (Thing t : now.things) {
            t.holder = NONE;
        }
        return able;
    }

    int undo() {
        if (acts.isEmpty()) {
            return NONE;
        }
        now = acts.pop();
        return acts.size();
    }

    int image() {
        if (!told()) {
            return NONE;
        }
        picture = now.copy();
        return now.day;
    }

    int back() {
        if (picture == null) {
            return NONE;
        }
        now = picture.copy();
        acts.clear();
        return now.day;
    }

    // ---- dealings ----

    /** Whether an HEIR can do all of these, in some order, each in time. */
    private boolean can(int h, List<Integer> set, int spent) {
        if (set.isEmpty()) {
            return true;
        }
        for (Integer t : set) {
            int days = alone(h, t);
            if (days != NONE && inTime(t, spent + days)) {
                List<Integer> rest = new ArrayList<>(set);
                rest.remove(t);
                if (can(h, rest, spent + days)) {
                    return true;
                }
            }
        }
        return false;
    }

    private static List<Integer> listed(int set) {
        List<Integer> list = new ArrayList<>();
        for (int k = 0; k < 6; k++) {
            if ((set >> k & 1) == 1) {
                list.add(k);
            }
        }
        return list;
    }

    private boolean[][] feasible() {
        boolean[][] good = new boolean[heirs()][1 << now.things.size()];
        for (int h = 0; h < heirs(); h++) {
            for (int set = 0; set < good[h].length; set++) {
                good[h][set] = can(h, listed(set), 0);
            }
        }
        return good;
    }

    /** Digits and VALUES. */
    private int[] dealt() {
        int n = now.things.size();
        boolean[][] good = feasible();
        int[] best = {NONE, NONE};
        deal(0, new int[heirs()], 0, 0, good, best, n);
        return best;
    }

    private void deal(int t, int[] sets, int digits, int values, boolean[][] good, int[] best, int n) {
        if (t == n) {
            if (values > best[1]) {
                best[0] = digits;
                best[1] = values;
            }
            return;
        }
        for (int h = 0; h < heirs() && open(t); h++) {
            if (good[h][sets[h] | 1 << t]) {
                sets[h] |= 1 << t;
                deal(t + 1, sets, digits * 10 + h, values + now.things.get(t).v, good, best, n);
                sets[h] &= ~(1 << t);
            }
        }
        deal(t + 1, sets, digits * 10 + 9, values, good, best, n);
    }

    int deal(int what) {
        return !told() || what < 0 || what > 1 ? NONE : dealt()[what];
    }

    private int most(int h, int set, int spent) {
        int most = 0;
        for (int part = 0; part <= set; part++) {
            if ((part & set) == part && can(h, listed(part), spent)) {
                most = Math.max(most, listed(part).stream().mapToInt(t -> now.things.get(t).v).sum());
            }
        }
        return most;
    }

    int best(int h, int set) {
        return !isHeir(h) || set < 0 || set >= 1 << now.things.size() ? NONE : most(h, set, 0);
    }

    int learn(int what) {
        if (!told() || what < 0 || what > 1) {
            return NONE;
        }
        int[] best = {NONE, NONE};
        for (int h = 0; h < heirs(); h++) {
            for (int k = 0; k < 5; k++) {
                if (now.skill[h][k] < 9) {
                    now.skill[h][k]++;
                    int all = dealt()[1];
                    now.skill[h][k]--;
                    if (all > best[1]) {
                        best[0] = 10 * h + k;
                        best[1] = all;
                    }
                }
            }
        }
        return best[what];
    }

    int begin(int n, int what) {
        if (!told() || n < 0 || n > 12 || what < 0 || what > 1) {
            return NONE;
        }
        int[] best = {NONE, NONE};
        begin(0, n, 0, 0, best);
        return best[what];
    }

    private void begin(int t, int days, int digits, int complete, int[] best) {
        if (t == now.things.size()) {
            int all = complete + dealt()[1];
            if (all > best[1]) {
                best[0] = digits;
                best[1] = all;
            }
            return;
        }
        Thing x = now.things.get(t);
        begin(t + 1, days, digits * 10, complete, best);
        int done = x.done;
        int spent = 0;
        for (int more = 1; open(t) && done + more <= x.steps(); more++) {
            spent += x.need[done + more - 1];
            if (spent > days) {
                break;
            }
            x.done = done + more;
            boolean whole = x.done == x.steps();
            x.state = whole ? 1 : 0;
            begin(t + 1, days - spent, digits * 10 + more, complete + (whole ? x.v : 0), best);
            x.state = 0;
        }
        x.done = done;
    }

    int spite(int h, int what) {
        if (!isHeir(h) || what < 0 || what > 1) {
            return NONE;
        }
        int[] best = {NONE, NONE};
        for (int t = 0; t < now.things.size(); t++) {
            if (open(t)) {
                int days = alone(h, t);
                int others = ((1 << now.things.size()) - 1) & ~(1 << t);
                int all = days == NONE ? 0 : most(h, others, days) + (inTime(t, days) ? now.things.get(t).v : 0);
                if (best[0] == NONE || all < best[1]) {
                    best[0] = t;
                    best[1] = all;
                }
            }
        }
        return best[what];
    }

    // ---- laws ----

    static int worth(String law, int[] letters) {
        for (String clause : law.split(";")) {
            String rest = clause.substring(2);
            int asked = rest.indexOf('?');
            if (asked < 0 || holds(rest.substring(0, asked), letters)) {
                return sum(rest.substring(asked + 1), letters);
            }
        }
        return 0;
    }

    /** Where one of these signs stands last outside of all brackets. */
    private static int lastOf(String text, String signs) {
        int depth = 0;
        for (int k = text.length() - 1; k >= 0; k--) {
            char one = text.charAt(k);
            depth += one == ')' || one == ']' ? 1 : one == '(' || one == '[' ? -1 : 0;
            if (depth == 0 && signs.indexOf(one) >= 0) {
                return k;
            }
        }
        return -1;
    }

    private static boolean holds(String text, int[] letters) {
        int at = lastOf(text, "|");
        if (at >= 0) {
            return holds(text.substring(0, at), letters) | holds(text.substring(at + 1), letters);
        }
        at = lastOf(text, "&");
        if (at >= 0) {
            return holds(text.substring(0, at), letters) & holds(text.substring(at + 1), letters);
        }
        if (text.charAt(0) == '!') {
            return !holds(text.substring(1), letters);
        }
        if (text.charAt(0) == '(') {
            return holds(text.substring(1, text.length() - 1), letters);
        }
        at = lastOf(text, "=<>");
        int left = sum(text.substring(0, at), letters);
        int right = sum(text.substring(at + 1), letters);
        return text.charAt(at) == '=' ? left == right : text.charAt(at) == '<' ? left < right : left > right;
    }

    private static int sum(String text, int[] letters) {
        int at = lastOf(text, "+-");
        if (at < 0) {
            at = lastOf(text, "*/");
        }
        if (at >= 0) {
            long left = sum(text.substring(0, at), letters);
            long right = sum(text.substring(at + 1), letters);
            long number = switch (text.charAt(at)) {
                case '+' -> left + right;
                case '-' -> left - right;
                case '*' -> left * right;
                default -> right == 0 ? 0 : left / right;
            };
            return (int) Math.max(-1000000, Math.min(1000000, number));
        }
        if (text.charAt(0) == '[') {
            return sum(text.substring(1, text.length() - 1), letters);
        }
        int letter = "vksdnpci".indexOf(text.charAt(0));
        return letter >= 0 ? letters[letter] : Integer.parseInt(text);
    }

    int wish(int h, int t) {
        if (!isHeir(h) || !isThing(t)) {
            return HIDDEN;
        }
        Thing x = now.things.get(t);
        if (holds == NONE) {
            return x.v;
        }
        int s = Arrays.stream(now.skill[h]).sum();
        int[] letters = {x.v, kin[h], s, Math.max(0, alone(h, t)), x.steps() - x.done, 0, 0, 0};
        return worth(laws.get(holds), letters);
    }

    // ---- games ----

    private int[] picks(int row) {
        int[] picks = new int[heirs()];
        String digits = String.format("%0" + heirs() + "d", row);
        if (digits.length() > heirs()) {
            return null;
        }
        for (int h = 0; h < heirs(); h++) {
            picks[h] = digits.charAt(h) - '0';
            if (picks[h] != 9 && !open(picks[h])) {
                return null;
            }
        }
        return picks;
    }

    private int gain(int[] picks, int h) {
        int t = picks[h];
        if (t == 9 || !inTime(t, alone(h, t))) {
            return 0;
        }
        for (int other = 0; other < picks.length; other++) {
            if (other != h && picks[other] == t && alone(other, t) != NONE) {
                int more = alone(other, t) - alone(h, t);
                if (more < 0 || (more == 0 && other < h)) {
                    return 0;
                }
            }
        }
        return wish(h, t);
    }

    private boolean rest(int[] picks) {
        for (int h = 0; h < picks.length; h++) {
            int has = gain(picks, h);
            int pick = picks[h];
            for (int t = 0; t <= 9; t++) {
                if (t == 9 || open(t)) {
                    picks[h] = t;
                    if (gain(picks, h) > has) {
                        return false;
                    }
                }
            }
            picks[h] = pick;
        }
        return true;
    }

    int rests(int i) {
        if (heirs() > 4) {
            return HIDDEN;
        }
        if (!told()) {
            return NONE;
        }
        List<Integer> rows = new ArrayList<>();
        for (int row = 0; row < (int) Math.pow(10, heirs()); row++) {
            int[] picks = picks(row);
            if (picks != null && rest(picks)) {
                rows.add(row);
            }
        }
        return i == NONE ? rows.size() : i < 0 || i >= rows.size() ? NONE : rows.get(i);
    }

    int gains(int row, int h) {
        if (!isHeir(h) || heirs() > 4 || row < 0 || picks(row) == null) {
            return HIDDEN;
        }
        return gain(picks(row), h);
    }

    // ---- ends ----

    private boolean fits(int b, int law, String signs) {
        String whole = beginnings.get(b) + signs;
        for (int i = beginnings.get(b).length(); i < whole.length(); i++) {
            int[] letters = {0, 0, 0, 0, 0, whole.charAt(i - 1) - '0', whole.charAt(i) - '0', i};
            if (worth(laws.get(law), letters) <= 0) {
                return false;
            }
        }
        return whole.endsWith("0");
    }

    private List<String> rows(int n) {
        List<String> rows = new ArrayList<>();
        for (int length = 1; length <= n; length++) {
            for (int k = 0; k < (int) Math.pow(10, length); k++) {
                rows.add(String.format("%0" + length + "d", k));
            }
        }
        return rows;
    }

    private List<String> fitting(int b, int law, int n) {
        if (b < 0 || b >= beginnings.size() || law < 0 || law >= laws.size() || n < 1 || n > 4) {
            return null;
        }
        List<String> good = new ArrayList<>();
        for (String signs : rows(n)) {
            if (fits(b, law, signs)) {
                good.add(signs);
            }
        }
        return good;
    }

    int ends(int b, int law, int n, int i) {
        List<String> good = fitting(b, law, n);
        if (good == null) {
            return NONE;
        }
        return i == NONE ? good.size() : i < 0 || i >= good.size() ? NONE : Integer.parseInt("1" + good.get(i));
    }

    int shortest(int b, int law, int n) {
        List<String> good = fitting(b, law, n);
        return good == null || good.isEmpty() ? NONE : good.get(0).length();
    }

    int judged(int b, int signs, int digits) {
        if (b < 0 || b >= beginnings.size() || signs < 1 || signs > 4 || digits < 0 || digits >= Math.pow(10, signs)) {
            return NONE;
        }
        int bits = 0;
        for (int law = 0; law < laws.size(); law++) {
            bits |= fits(b, law, String.format("%0" + signs + "d", digits)) ? 1 << law : 0;
        }
        return bits;
    }

    int dearest(int b, int n, int what) {
        if (b < 0 || b >= beginnings.size() || n < 1 || n > 4 || what < 0 || what > 1) {
            return NONE;
        }
        int[] best = {NONE, 0};
        for (String signs : rows(n)) {
            int many = Integer.bitCount(judged(b, signs.length(), Integer.parseInt(signs)));
            if (many > best[1]) {
                best[0] = Integer.parseInt("1" + signs);
                best[1] = many;
            }
        }
        return best[0] == NONE ? NONE : best[what];
    }

    int sign(int b, int i) {
        if (b < 0 || b >= beginnings.size() || i < NONE || i >= beginnings.get(b).length()) {
            return NONE;
        }
        return i == NONE ? beginnings.get(b).length() : beginnings.get(b).charAt(i) - '0';
    }

    // ---- how it stood ----

    int ended(int t, int h, int days) {
        if (!isThing(t) || !isHeir(h) || days < 1 || days > 99 || endings.size() == 12) {
            return NONE;
        }
        endings.add(new int[] {t, h, days});
        return endings.size();
    }

    int stood(int t) {
        if (!isThing(t)) {
            return NONE;
        }
        int bits = (2 << now.things.get(t).steps()) - 1;
        for (int[] one : endings) {
            for (int done = 0; done <= 8 && one[0] == t; done++) {
                if (from(one[1], t, done) != one[2]) {
                    bits &= ~(1 << done);
                }
            }
        }
        return bits;
    }

    int count(int what) {
        int finished = 0;
        int rotten = 0;
        int values = 0;
        for (Thing t : now.things) {
            finished += t.state == 1 ? 1 : 0;
            rotten += t.state == 2 ? 1 : 0;
            values += t.state == 1 ? t.v : 0;
        }
        int[] all = {now.things.size(), heirs(), Arrays.stream(tool).sum(), laws.size(), beginnings.size(),
            tape.length(), now.day, holds, endings.size(), acts.size(), finished, rotten, values};
        return what < 0 || what > 12 ? HIDDEN : all[what];
    }
}
