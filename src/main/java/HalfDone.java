import java.util.Arrays;
import java.util.NoSuchElementException;

/** Things left half done, and who can finish them; README.md says how to use it. */
public final class HalfDone {
    public static final int NONE = -1;
    public static final int HIDDEN = -1000000;

    private static final int TAPE_BYTES = 240;
    private static final int THINGS = 6;
    private static final int HEIRS = 6;
    private static final int TRADES = 5;
    private static final int STEPS = 8;
    private static final int TOOLS = 4;
    private static final int LAWS = 6;
    private static final int BEGINNINGS = 4;
    private static final int SIGNS = 12;
    private static final int ENDINGS = 12;
    private static final int ACTS = 40;
    private static final int PLAYERS = 4;
    private static final int MOST_SKILL = 9;
    private static final int LAST_DAY = 999;
    private static final int MOST_DAYS = 99;
    private static final int MOST_BEHIND = 4;
    private static final int MOST_BEGUN = 12;
    private static final int MOST_NESTED = 6;
    private static final int MOST_WORTH = 1000000;
    private static final int NOBODY = 9;

    private static final int TO_DO = 0;
    private static final int FINISHED = 1;
    private static final int ROTTEN = 2;

    /* Where each part stands in an estate's live row: one row, so that an act or an image keeps it by one copy. */
    private static final int DONE = 0;
    private static final int GOT = 6;
    private static final int HOLDER = 12;
    private static final int STATE = 18;
    private static final int ENDED_ON = 24;
    private static final int ENDED_BY = 30;
    private static final int SKILL = 36;
    private static final int DAY = 66;
    private static final int LIVE = 67;

    private static final int SETS = 64;
    private static final int[] TENS = {1, 10, 100, 1000, 10000, 100000, 1000000};

    private final Tape tape;
    private final WillReader willReader;
    private final LawReader lawReader;
    private final Laws laws;
    private final Beginnings beginnings;
    private final Endings endings;
    private final Past past;
    private final Dealer dealer;
    private final Dying dying;
    private final Game game;
    private Estate will;
    private Estate draft;
    private int holding;

    public HalfDone() {
        tape = new Tape();
        willReader = new WillReader(tape);
        lawReader = new LawReader(tape);
        laws = new Laws();
        beginnings = new Beginnings();
        endings = new Endings();
        past = new Past();
        dealer = new Dealer();
        dying = new Dying(dealer);
        game = new Game();
        will = new Estate();
        draft = new Estate();
        holding = NONE;
    }

    // ---- texts ----

    public int feed(int a, int b, int c, int d, int e) {
        int more = Tape.bytesOf(a) + Tape.bytesOf(b) + Tape.bytesOf(c) + Tape.bytesOf(d) + Tape.bytesOf(e);
        if (tape.length + more > TAPE_BYTES) {
            return NONE;
        }
        tape.add(a);
        tape.add(b);
        tape.add(c);
        tape.add(d);
        tape.add(e);
        return tape.length;
    }

    public boolean end(int n) {
        if (n < 0 || n > tape.length) {
            return false;
        }
        tape.length = n;
        return true;
    }

    public int fault(int sort) {
        switch (sort) {
            case 0:
                return willReader.read(draft);
            case 1:
                return lawReader.read();
            case 2:
                return beginnings.read(tape);
            default:
                return -2;
        }
    }

    public int text(int sort) {
        int number = NONE;
        if (sort == 0) {
            number = putWill();
        } else if (sort == 1 && laws.count < LAWS && lawReader.read() == NONE) {
            number = laws.add(lawReader.code, lawReader.length);
        } else if (sort == 2 && beginnings.count < BEGINNINGS && beginnings.read(tape) == NONE) {
            number = beginnings.add();
        }
        if (number != NONE) {
            tape.length = 0;
        }
        return number;
    }

    private int putWill() {
        if (willReader.read(draft) != NONE) {
            return NONE;
        }
        Estate old = will;
        will = draft;
        draft = old;
        holding = NONE;
        endings.count = 0;
        past.forget();
        return will.things;
    }

    // ---- what was told ----

    public int thing(int thing, int what) throws NoSuchElementException {
        if (!will.hasThing(thing)) {
            throw new NoSuchElementException("no such thing");
        }
        switch (what) {
            case 0:
                return will.value[thing];
            case 1:
                return will.rots[thing];
            case 2:
                return will.live[DONE + thing];
            case 3:
                return will.steps[thing];
            case 4:
                return will.live[HOLDER + thing];
            case 5:
                return will.live[STATE + thing];
            case 6:
                return will.live[GOT + thing];
            case 7:
                return will.live[ENDED_ON + thing];
            case 8:
                return will.live[ENDED_BY + thing];
            default:
                throw new NoSuchElementException("no such what");
        }
    }

    public int step(int thing, int step, int what) {
        if (!will.hasStep(thing, step)) {
            return NONE;
        }
        if (what == 0) {
            return will.trades[thing * STEPS + step];
        }
        return what == 1 ? will.needs[thing * STEPS + step] : NONE;
    }

    public int heir(int heir, int what) {
        if (!will.hasHeir(heir) || what < 0 || what > 6) {
            return NONE;
        }
        if (what < TRADES) {
            return will.skill(heir, what);
        }
        return what == 5 ? will.kin[heir] : will.heldBy(heir);
    }

    public int tools(int trade) {
        return will.isTold() && isTrade(trade) ? will.tools[trade] : NONE;
    }

    public boolean law(int law) {
        if (!will.isTold() || (law != NONE && !laws.has(law))) {
            return false;
        }
        holding = law;
        return true;
    }

    // ---- who can finish what ----

    public int takes(int heir, int thing, int step) {
        return will.hasHeir(heir) && will.hasStep(thing, step) ? will.stepDays(heir, thing, step) : NONE;
    }

    public int alone(int heir, int thing) {
        return will.hasHeir(heir) && will.isOpen(thing) ? will.aloneDays(heir, thing) : NONE;
    }

    public int who(int thing) {
        return will.isOpen(thing) ? will.aloneInTime(thing) : NONE;
    }

    public int stuck(int thing) {
        return will.isOpen(thing) ? will.firstStuck(thing) : NONE;
    }

    public int team(int thing, int heirs) {
        return will.isOpen(thing) && will.hasSet(heirs) ? will.teamDays(thing, heirs) : NONE;
    }

    public int helpers(int thing) {
        return will.isOpen(thing) ? will.fewestInTime(thing) : NONE;
    }

    public int sold() {
        return will.isTold() ? will.paidByGuilds() : NONE;
    }

    // ---- acts ----

    public int give(int thing, int heir) {
        if (!will.isOpen(thing) || (heir != NONE && !will.hasHeir(heir)) || will.live[HOLDER + thing] == heir) {
            return NONE;
        }
        past.keep(will.live);
        will.live[HOLDER + thing] = heir;
        return past.count;
    }

    public int teach(int heir, int trade) {
        if (!will.hasHeir(heir) || !isTrade(trade) || will.skill(heir, trade) >= MOST_SKILL) {
            return NONE;
        }
        past.keep(will.live);
        will.addSkill(heir, trade, 1);
        return will.skill(heir, trade);
    }

    public int days(int n) {
        if (!will.isTold() || n < 1 || n > MOST_DAYS || will.live[DAY] + n > LAST_DAY) {
            return NONE;
        }
        for (int day = 0; day < n; day++) {
            past.keep(will.live);
            will.passDay();
        }
        return will.live[DAY];
    }

    public int generation(long seed) {
        if (!will.isTold()) {
            return NONE;
        }
        past.keep(will.live);
        return will.raiseHeirs(seed);
    }

    public int undo() {
        return past.takeBack(will.live) ? past.count : NONE;
    }

    public int image() {
        if (!will.isTold()) {
            return NONE;
        }
        past.keepImage(will.live);
        return will.live[DAY];
    }

    public int back() {
        return past.bringBack(will.live) ? will.live[DAY] : NONE;
    }

    // ---- dealings ----

    public int deal(int what) {
        if (!will.isTold() || what < 0 || what > 1) {
            return NONE;
        }
        int score = dealer.dealAll(will);
        return what == 0 ? dealer.digitsOf(will, score) : Dealer.valuesOf(score);
    }

    public int best(int heir, int things) {
        if (!will.hasHeir(heir) || things < 0 || things >= 1 << will.things) {
            return NONE;
        }
        return dealer.mostAlone(will, heir, things);
    }

    public int learn(int what) {
        if (!will.isTold() || what < 0 || what > 1) {
            return NONE;
        }
        return dealer.learnBest(will, what);
    }

    public int begin(int n, int what) {
        if (!will.isTold() || n < 0 || n > MOST_BEGUN || what < 0 || what > 1) {
            return NONE;
        }
        return dying.beginBest(will, n, what);
    }

    public int spite(int heir, int what) {
        if (!will.hasHeir(heir) || what < 0 || what > 1) {
            return NONE;
        }
        return dealer.spiteOn(will, heir, what);
    }

    // ---- wishes and games ----

    public int wish(int heir, int thing) {
        return will.hasHeir(heir) && will.hasThing(thing) ? wishOf(heir, thing) : HIDDEN;
    }

    private int wishOf(int heir, int thing) {
        if (!laws.has(holding)) {
            return will.value[thing];
        }
        int days = will.isOpen(thing) ? will.aloneDays(heir, thing) : 0;
        int left = will.steps[thing] - will.live[DONE + thing];
        laws.tellOfWish(will.value[thing], will.kin[heir], will.allSkills(heir), Math.max(days, 0), left);
        return laws.worth(holding);
    }

    public int rests(int i) {
        if (will.heirs > PLAYERS) {
            return HIDDEN;
        }
        if (!will.isTold()) {
            return NONE;
        }
        layOutGame();
        return game.restingRow(i);
    }

    public int gains(int row, int heir) {
        if (!will.hasHeir(heir) || will.heirs > PLAYERS) {
            return HIDDEN;
        }
        layOutGame();
        return game.takeRow(row) ? game.gainOf(heir) : HIDDEN;
    }

    private void layOutGame() {
        game.open(will.heirs);
        for (int thing = 0; thing < will.things; thing++) {
            if (will.isOpen(thing)) {
                game.addThing(thing);
            }
        }
        for (int heir = 0; heir < will.heirs && heir < PLAYERS; heir++) {
            for (int thing = 0; thing < will.things; thing++) {
                if (will.isOpen(thing)) {
                    game.tellOf(heir, thing, will.daysInTime(heir, thing), wishOf(heir, thing));
                }
            }
        }
    }

    // ---- ends ----

    public int ends(int beginning, int law, int n, int i) {
        if (!beginnings.has(beginning) || !laws.has(law) || !isBehind(n)) {
            return NONE;
        }
        int found = 0;
        for (int signs = 1; signs <= n; signs++) {
            for (int digits = 0; digits < TENS[signs]; digits += 10) {
                if (fits(beginning, law, signs, digits)) {
                    if (found == i) {
                        return TENS[signs] + digits;
                    }
                    found++;
                }
            }
        }
        return i == NONE ? found : NONE;
    }

    public int shortest(int beginning, int law, int n) {
        int first = ends(beginning, law, n, 0);
        for (int signs = 1; signs <= MOST_BEHIND; signs++) {
            if (first >= TENS[signs] && first < TENS[signs + 1]) {
                return signs;
            }
        }
        return NONE;
    }

    public int judged(int beginning, int signs, int digits) {
        if (!beginnings.has(beginning) || !isBehind(signs) || digits < 0 || digits >= TENS[signs]) {
            return NONE;
        }
        return fitting(beginning, signs, digits);
    }

    public int dearest(int beginning, int n, int what) {
        if (!beginnings.has(beginning) || !isBehind(n) || what < 0 || what > 1) {
            return NONE;
        }
        int most = 0;
        int which = NONE;
        for (int signs = 1; signs <= n; signs++) {
            for (int digits = 0; digits < TENS[signs]; digits += 10) {
                int many = Integer.bitCount(fitting(beginning, signs, digits));
                if (many > most) {
                    most = many;
                    which = TENS[signs] + digits;
                }
            }
        }
        return what == 0 || which == NONE ? which : most;
    }

    private int fitting(int beginning, int signs, int digits) {
        int bits = 0;
        for (int law = 0; law < laws.count; law++) {
            if (fits(beginning, law, signs, digits)) {
                bits |= 1 << law;
            }
        }
        return bits;
    }

    private boolean fits(int beginning, int law, int signs, int digits) {
        int length = beginnings.lengths[beginning];
        if (length < 1 || digits % 10 != 0) {
            return false;
        }
        int ahead = beginnings.rows[beginning][length - 1];
        for (int k = 0; k < signs; k++) {
            int sign = digits / TENS[signs - 1 - k] % 10;
            if (!laws.likes(law, length + k, ahead, sign)) {
                return false;
            }
            ahead = sign;
        }
        return true;
    }

    private static boolean isBehind(int signs) {
        return signs >= 1 && signs <= MOST_BEHIND;
    }

    public int sign(int beginning, int i) {
        if (!beginnings.has(beginning) || i < NONE || i >= beginnings.lengths[beginning]) {
            return NONE;
        }
        return i == NONE ? beginnings.lengths[beginning] : beginnings.rows[beginning][i];
    }

    // ---- how it stood ----

    public int ended(int thing, int heir, int days) {
        if (!will.hasThing(thing) || !will.hasHeir(heir) || days < 1 || days > MOST_DAYS) {
            return NONE;
        }
        return endings.add(thing, heir, days);
    }

    public int stood(int thing) {
        return will.hasThing(thing) ? endings.doneOf(will, thing) : NONE;
    }

    public int count(int what) {
        switch (what) {
            case 0:
                return will.things;
            case 1:
                return will.heirs;
            case 2:
                return will.toolCount;
            case 3:
                return laws.count;
            case 4:
                return beginnings.count;
            case 5:
                return tape.length;
            case 6:
                return will.live[DAY];
            case 7:
                return holding;
            case 8:
                return endings.count;
            case 9:
                return past.count;
            case 10:
                return will.countOf(FINISHED);
            case 11:
                return will.countOf(ROTTEN);
            case 12:
                return will.finishedValues();
            default:
                return HIDDEN;
        }
    }

    private static boolean isTrade(int trade) {
        return trade >= 0 && trade < TRADES;
    }

    /** The bytes that were fed, and how far a reader of them has come. */
    private static final class Tape {
        private static final int END = -1;

        final int[] bytes = new int[TAPE_BYTES];
        int length;
        int at;
        int fault;

        static int bytesOf(int word) {
            int many = 0;
            for (int shift = 24; shift >= 0; shift -= 8) {
                if ((word >>> shift & 255) != 0) {
                    many++;
                }
            }
            return many;
        }

        void add(int word) {
            for (int shift = 24; shift >= 0; shift -= 8) {
                int one = word >>> shift & 255;
                if (one != 0 && length < TAPE_BYTES) {
                    bytes[length] = one;
                    length++;
                }
            }
        }

        void rewind() {
            at = 0;
            fault = NONE;
        }

        /** The next sign behind blanks, or END. */
        int peek() {
            while (at < length && at < TAPE_BYTES && bytes[at] == ' ') {
                at++;
            }
            return at < length && at < TAPE_BYTES ? bytes[at] : END;
        }

        void skip() {
            at++;
        }

        boolean fails() {
            fault = at;
            return false;
        }

        boolean must(int sign) {
            if (peek() != sign) {
                return fails();
            }
            skip();
            return true;
        }

        /** A number within bounds; NONE with the fault set. A digit too many is told ahead of the bounds. */
        int number(int mostDigits, int least, int most) {
            int number = 0;
            int digits = 0;
            int sign = peek();
            while (isDigit(sign) && digits < mostDigits) {
                number = number * 10 + sign - '0';
                digits++;
                skip();
                sign = at < length && at < TAPE_BYTES ? bytes[at] : END;
            }
            if (digits == 0 || isDigit(sign)) {
                fault = at;
                return NONE;
            }
            if (number < least || number > most) {
                fault = at - 1;
                return NONE;
            }
            return number;
        }

        static boolean isDigit(int sign) {
            return sign >= '0' && sign <= '9';
        }
    }

    /** Reads the tape as a WILL into a draft. */
    private static final class WillReader {
        private static final int[] LEAST = {0, 1, 0};
        private static final int[] MOST = {99, 99, 8};
        private static final int VALUE_ITEM = 0;
        private static final int ROTS_ITEM = 1;
        private static final int KIN_ITEM = TRADES;

        final Tape tape;

        WillReader(Tape tape) {
            this.tape = tape;
        }

        /** The FAULT, or NONE: then the draft is the WILL. */
        int read(Estate draft) {
            tape.rewind();
            draft.clear();
            for (int clauses = 0; clauses < TAPE_BYTES; clauses++) {
                if (!readClause(draft)) {
                    return tape.fault;
                }
                if (tape.peek() == Tape.END) {
                    break;
                }
                if (!tape.must(';')) {
                    return tape.fault;
                }
            }
            return draft.isWhole() ? NONE : tape.length;
        }

        private boolean readClause(Estate draft) {
            switch (tape.peek()) {
                case 't':
                    return readThing(draft);
                case 'h':
                    return readHeir(draft);
                case 'g':
                    return readTool(draft);
                default:
                    return tape.fails();
            }
        }

        private boolean readThing(Estate draft) {
            if (draft.things >= THINGS) {
                return tape.fails();
            }
            tape.skip();
            int thing = draft.addThing();
            int seen = 0;
            for (int items = 0; items < LEAST.length; items++) {
                int item = thingItem(tape.peek());
                if (item == NONE || (seen >> item & 1) == 1) {
                    break;
                }
                seen |= 1 << item;
                tape.skip();
                int number = tape.number(2, LEAST[item], MOST[item]);
                if (number == NONE) {
                    return false;
                }
                putItem(draft, thing, item, number);
            }
            return tape.must(':') && readSteps(draft, thing);
        }

        private static int thingItem(int sign) {
            switch (sign) {
                case 'v':
                    return VALUE_ITEM;
                case 'r':
                    return ROTS_ITEM;
                case 'd':
                    return 2;
                default:
                    return NONE;
            }
        }

        private static void putItem(Estate draft, int thing, int item, int number) {
            if (item == VALUE_ITEM) {
                draft.value[thing] = number;
            } else if (item == ROTS_ITEM) {
                draft.rots[thing] = number;
            } else {
                draft.live[DONE + thing] = number;
            }
        }

        private boolean readSteps(Estate draft, int thing) {
            for (int steps = 0; steps <= STEPS; steps++) {
                int trade = tradeOf(tape.peek());
                if (trade == NONE && steps > 0) {
                    break;
                }
                if (trade == NONE || steps == STEPS) {
                    return tape.fails();
                }
                tape.skip();
                int need = tape.peek() - '0';
                if (need < 1 || need > 9) {
                    return tape.fails();
                }
                tape.skip();
                draft.addStep(thing, trade, need);
            }
            draft.settle(thing);
            return true;
        }

        private boolean readHeir(Estate draft) {
            if (draft.heirs >= HEIRS) {
                return tape.fails();
            }
            tape.skip();
            int heir = draft.addHeir();
            int seen = 0;
            for (int items = 0; items <= KIN_ITEM; items++) {
                int item = tape.peek() == 'k' ? KIN_ITEM : tradeOf(tape.peek());
                if (item == NONE || (seen >> item & 1) == 1) {
                    break;
                }
                seen |= 1 << item;
                tape.skip();
                int number = tape.number(2, 0, MOST_SKILL);
                if (number == NONE) {
                    return false;
                }
                if (item == KIN_ITEM) {
                    draft.kin[heir] = number;
                } else {
                    draft.addSkill(heir, item, number);
                }
            }
            return true;
        }

        private boolean readTool(Estate draft) {
            if (draft.toolCount >= TOOLS) {
                return tape.fails();
            }
            tape.skip();
            int trade = tradeOf(tape.peek());
            if (trade == NONE) {
                return tape.fails();
            }
            tape.skip();
            draft.addTool(trade);
            return true;
        }

        private static int tradeOf(int sign) {
            return sign >= 'a' && sign <= 'e' ? sign - 'a' : NONE;
        }
    }

    /** Reads the tape as a LAW into codes in which each sign stands behind what it joins: a number is its own code. */
    private static final class LawReader {
        final Tape tape;
        final int[] code = new int[TAPE_BYTES];
        int length;

        LawReader(Tape tape) {
            this.tape = tape;
        }

        /** The FAULT, or NONE: then code holds the LAW. */
        int read() {
            tape.rewind();
            length = 0;
            for (int clauses = 0; clauses < TAPE_BYTES; clauses++) {
                if (!readClause()) {
                    return tape.fault;
                }
                if (tape.peek() == Tape.END) {
                    return NONE;
                }
                if (!tape.must(';')) {
                    return tape.fault;
                }
            }
            return tape.length;
        }

        private void emit(int one) {
            if (length < TAPE_BYTES) {
                code[length] = one;
                length++;
            }
        }

        private boolean readClause() {
            if (!tape.must('y') || !tape.must(':')) {
                return false;
            }
            int first = tape.peek();
            boolean begun = first != '!' && first != '(';
            if (begun && !readSum(0)) {
                return false;
            }
            int jump = NONE;
            if (!begun || comparison(tape.peek()) != NONE) {
                if (!readCondition(0, begun) || !tape.must('?')) {
                    return false;
                }
                jump = length;
                emit(Laws.JUMP);
                if (!readSum(0)) {
                    return false;
                }
            }
            emit(Laws.ANSWER);
            if (jump >= 0 && jump < TAPE_BYTES) {
                code[jump] = Laws.JUMP - length;
            }
            return true;
        }

        /** begun: the first SUM of it has been read, since only what stands behind it tells that it is a CONDITION. */
        private boolean readCondition(int depth, boolean begun) {
            if (!readTruth(depth, begun)) {
                return false;
            }
            for (int more = 0; more < TAPE_BYTES && tape.peek() == '|'; more++) {
                tape.skip();
                if (!readTruth(depth, false)) {
                    return false;
                }
                emit(Laws.OR);
            }
            return true;
        }

        private boolean readTruth(int depth, boolean begun) {
            if (!readUnit(depth, begun)) {
                return false;
            }
            for (int more = 0; more < TAPE_BYTES && tape.peek() == '&'; more++) {
                tape.skip();
                if (!readUnit(depth, false)) {
                    return false;
                }
                emit(Laws.AND);
            }
            return true;
        }

        private boolean readUnit(int depth, boolean begun) {
            int first = begun ? Tape.END : tape.peek();
            if (first == '!' || first == '(') {
                return readNested(depth, first);
            }
            if (!begun && !readSum(depth)) {
                return false;
            }
            int compared = comparison(tape.peek());
            if (compared == NONE) {
                return tape.fails();
            }
            tape.skip();
            if (!readSum(depth)) {
                return false;
            }
            emit(compared);
            return true;
        }

        private boolean readNested(int depth, int first) {
            if (depth >= MOST_NESTED) {
                return tape.fails();
            }
            tape.skip();
            if (first == '(') {
                return readCondition(depth + 1, false) && tape.must(')');
            }
            if (!readUnit(depth + 1, false)) {
                return false;
            }
            emit(Laws.NOT);
            return true;
        }

        private boolean readSum(int depth) {
            if (!readTerm(depth)) {
                return false;
            }
            for (int more = 0; more < TAPE_BYTES; more++) {
                int sign = tape.peek();
                if (sign != '+' && sign != '-') {
                    break;
                }
                tape.skip();
                if (!readTerm(depth)) {
                    return false;
                }
                emit(sign == '+' ? Laws.PLUS : Laws.MINUS);
            }
            return true;
        }

        private boolean readTerm(int depth) {
            if (!readAtom(depth)) {
                return false;
            }
            for (int more = 0; more < TAPE_BYTES; more++) {
                int sign = tape.peek();
                if (sign != '*' && sign != '/') {
                    break;
                }
                tape.skip();
                if (!readAtom(depth)) {
                    return false;
                }
                emit(sign == '*' ? Laws.TIMES : Laws.OVER);
            }
            return true;
        }

        private boolean readAtom(int depth) {
            int sign = tape.peek();
            if (sign == '[') {
                if (depth >= MOST_NESTED) {
                    return tape.fails();
                }
                tape.skip();
                return readSum(depth + 1) && tape.must(']');
            }
            if (Tape.isDigit(sign)) {
                int number = tape.number(4, 0, 9999);
                emit(number);
                return number != NONE;
            }
            int letter = letterOf(sign);
            if (letter == NONE) {
                return tape.fails();
            }
            tape.skip();
            emit(Laws.FIRST_LETTER - letter);
            return true;
        }

        private static int comparison(int sign) {
            switch (sign) {
                case '=':
                    return Laws.SAME;
                case '<':
                    return Laws.LESS;
                case '>':
                    return Laws.MORE;
                default:
                    return NONE;
            }
        }

        private static int letterOf(int sign) {
            switch (sign) {
                case 'v':
                    return Laws.V;
                case 'k':
                    return Laws.K;
                case 's':
                    return Laws.S;
                case 'd':
                    return Laws.D;
                case 'n':
                    return Laws.N;
                case 'p':
                    return Laws.P;
                case 'c':
                    return Laws.C;
                case 'i':
                    return Laws.I;
                default:
                    return NONE;
            }
        }
    }

    /** The LAWS as codes, and what they are worth. */
    private static final class Laws {
        private static final int V = 0;
        private static final int K = 1;
        private static final int S = 2;
        private static final int D = 3;
        private static final int N = 4;
        private static final int P = 5;
        private static final int C = 6;
        private static final int I = 7;
        private static final int LETTERS = 8;

        private static final int FIRST_LETTER = -2;
        private static final int LAST_LETTER = FIRST_LETTER - LETTERS + 1;
        private static final int PLUS = -10;
        private static final int MINUS = -11;
        private static final int TIMES = -12;
        private static final int OVER = -13;
        private static final int SAME = -14;
        private static final int LESS = -15;
        private static final int MORE = -16;
        private static final int AND = -17;
        private static final int OR = -18;
        private static final int NOT = -19;
        private static final int ANSWER = -20;
        /* A code of JUMP less a place goes on at that place unless what stands ahead holds. */
        private static final int JUMP = -100;

        private static final int PLACES = SIGNS + MOST_BEHIND;
        private static final int UNKNOWN = -1;

        final int[][] codes = new int[LAWS][TAPE_BYTES];
        final int[] lengths = new int[LAWS];
        final int[] letters = new int[LETTERS];
        /* Far above what six of ( [ ! within one another can leave open. */
        final int[] stack = new int[64];
        /* Signs (bits) that a LAW likes at a place behind a sign: a LAW never changes, so each is found once. */
        final int[][] liked = new int[LAWS][PLACES * 10];
        int top;
        int count;

        boolean has(int law) {
            return law >= 0 && law < count;
        }

        int add(int[] code, int length) {
            System.arraycopy(code, 0, codes[count], 0, length);
            lengths[count] = length;
            Arrays.fill(liked[count], UNKNOWN);
            count++;
            return count - 1;
        }

        void tellOfWish(int value, int kin, int skills, int days, int left) {
            Arrays.fill(letters, 0);
            letters[V] = value;
            letters[K] = kin;
            letters[S] = skills;
            letters[D] = days;
            letters[N] = left;
        }

        boolean likes(int law, int place, int ahead, int sign) {
            if (!has(law) || place < 0 || place >= PLACES || ahead < 0 || ahead > 9) {
                return false;
            }
            int at = place * 10 + ahead;
            if (liked[law][at] == UNKNOWN) {
                liked[law][at] = signsLiked(law, place, ahead);
            }
            return (liked[law][at] >> sign & 1) == 1;
        }

        private int signsLiked(int law, int place, int ahead) {
            Arrays.fill(letters, 0);
            letters[P] = ahead;
            letters[I] = place;
            int bits = 0;
            for (int sign = 0; sign <= 9; sign++) {
                letters[C] = sign;
                if (worth(law) > 0) {
                    bits |= 1 << sign;
                }
            }
            return bits;
        }

        /** What a LAW is worth with the letters as they are. */
        int worth(int law) {
            if (!has(law)) {
                return 0;
            }
            int[] code = codes[law];
            int length = Math.min(lengths[law], code.length);
            top = 0;
            for (int at = 0; at < length; at++) {
                int one = code[at];
                if (one >= 0) {
                    push(one);
                } else if (one <= FIRST_LETTER && one >= LAST_LETTER) {
                    push(letters[FIRST_LETTER - one]);
                } else if (one == ANSWER) {
                    return pop();
                } else if (one == NOT) {
                    push(1 - pop());
                } else if (one > JUMP) {
                    int right = pop();
                    push(joined(one, pop(), right));
                } else if (pop() == 0) {
                    at = Math.max(at, JUMP - one - 1);
                }
            }
            return 0;
        }

        private static int joined(int sign, long left, long right) {
            switch (sign) {
                case SAME:
                    return left == right ? 1 : 0;
                case LESS:
                    return left < right ? 1 : 0;
                case MORE:
                    return left > right ? 1 : 0;
                case AND:
                    return (int) (left & right);
                case OR:
                    return (int) (left | right);
                default:
                    return reckoned(sign, left, right);
            }
        }

        private static int reckoned(int sign, long left, long right) {
            long number = 0;
            if (sign == PLUS) {
                number = left + right;
            } else if (sign == MINUS) {
                number = left - right;
            } else if (sign == TIMES) {
                number = left * right;
            } else if (right != 0) {
                number = left / right;
            }
            return (int) Math.max(-MOST_WORTH, Math.min(MOST_WORTH, number));
        }

        private void push(int number) {
            if (top < stack.length) {
                stack[top] = number;
                top++;
            }
        }

        private int pop() {
            if (top <= 0) {
                return 0;
            }
            top--;
            return stack[top];
        }
    }

    /** The BEGINNINGS; the row behind the last of them is the one that is being read. */
    private static final class Beginnings {
        final int[][] rows = new int[BEGINNINGS + 1][SIGNS];
        final int[] lengths = new int[BEGINNINGS + 1];
        int count;

        boolean has(int beginning) {
            return beginning >= 0 && beginning < count;
        }

        /** The FAULT, or NONE: then the row behind the last is the BEGINNING. */
        int read(Tape tape) {
            tape.rewind();
            int length = 0;
            for (int signs = 0; signs <= TAPE_BYTES; signs++) {
                int sign = tape.peek();
                if (sign == Tape.END) {
                    break;
                }
                if (!Tape.isDigit(sign) || length >= SIGNS) {
                    return tape.at;
                }
                rows[count][length] = sign - '0';
                length++;
                tape.skip();
            }
            lengths[count] = length;
            return length == 0 ? tape.length : NONE;
        }

        int add() {
            count++;
            return count - 1;
        }
    }

    /** ENDINGS that were told. */
    private static final class Endings {
        final int[] things = new int[ENDINGS];
        final int[] heirs = new int[ENDINGS];
        final int[] spans = new int[ENDINGS];
        int count;

        int add(int thing, int heir, int days) {
            if (count >= ENDINGS) {
                return NONE;
            }
            things[count] = thing;
            heirs[count] = heir;
            spans[count] = days;
            count++;
            return count;
        }

        int doneOf(Estate will, int thing) {
            int bits = 0;
            for (int done = 0; done <= will.steps[thing]; done++) {
                if (isSo(will, thing, done)) {
                    bits |= 1 << done;
                }
            }
            return bits;
        }

        private boolean isSo(Estate will, int thing, int done) {
            for (int k = 0; k < count; k++) {
                if (things[k] == thing && will.daysFrom(heirs[k], thing, done) != spans[k]) {
                    return false;
                }
            }
            return true;
        }
    }

    /** What ACTS and the IMAGE have kept of an estate's live row. */
    private static final class Past {
        final int[][] kept = new int[ACTS][LIVE];
        final int[] picture = new int[LIVE];
        int next;
        int count;
        boolean pictured;

        void forget() {
            count = 0;
            pictured = false;
        }

        void keep(int[] live) {
            System.arraycopy(live, 0, kept[next], 0, LIVE);
            next = (next + 1) % ACTS;
            count = Math.min(count + 1, ACTS);
        }

        boolean takeBack(int[] live) {
            if (count == 0) {
                return false;
            }
            next = (next + ACTS - 1) % ACTS;
            count--;
            System.arraycopy(kept[next], 0, live, 0, LIVE);
            return true;
        }

        void keepImage(int[] live) {
            System.arraycopy(live, 0, picture, 0, LIVE);
            pictured = true;
        }

        boolean bringBack(int[] live) {
            if (!pictured) {
                return false;
            }
            System.arraycopy(picture, 0, live, 0, LIVE);
            count = 0;
            return true;
        }
    }

    /** A WILL: what was told of THINGS, HEIRS and TOOLS, and how they are now. */
    private static final class Estate {
        private static final long FACTOR = 6364136223846793005L;
        private static final long ADDEND = 1442695040888963407L;

        final int[] value = new int[THINGS];
        final int[] rots = new int[THINGS];
        final int[] steps = new int[THINGS];
        final int[] trades = new int[THINGS * STEPS];
        final int[] needs = new int[THINGS * STEPS];
        final int[] kin = new int[HEIRS];
        final int[] tools = new int[TRADES];
        final int[] busy = new int[TRADES];
        final int[] live = new int[LIVE];
        int things;
        int heirs;
        int toolCount;

        void clear() {
            things = 0;
            heirs = 0;
            toolCount = 0;
            Arrays.fill(tools, 0);
            Arrays.fill(live, 0);
        }

        int addThing() {
            int thing = things;
            things++;
            value[thing] = 10;
            rots[thing] = 30;
            steps[thing] = 0;
            live[HOLDER + thing] = NONE;
            live[ENDED_ON + thing] = NONE;
            live[ENDED_BY + thing] = NONE;
            return thing;
        }

        void addStep(int thing, int trade, int need) {
            int at = thing * STEPS + steps[thing];
            trades[at] = trade;
            needs[at] = need;
            steps[thing]++;
        }

        void settle(int thing) {
            if (live[DONE + thing] == steps[thing]) {
                live[STATE + thing] = FINISHED;
                live[ENDED_ON + thing] = 0;
            }
        }

        int addHeir() {
            int heir = heirs;
            heirs++;
            kin[heir] = 0;
            return heir;
        }

        void addTool(int trade) {
            tools[trade]++;
            toolCount++;
        }

        boolean isWhole() {
            for (int thing = 0; thing < things; thing++) {
                if (live[DONE + thing] > steps[thing]) {
                    return false;
                }
            }
            return things > 0 && heirs > 0;
        }

        boolean isTold() {
            return things > 0;
        }

        boolean hasThing(int thing) {
            return thing >= 0 && thing < things;
        }

        boolean hasHeir(int heir) {
            return heir >= 0 && heir < heirs;
        }

        boolean hasStep(int thing, int step) {
            return hasThing(thing) && step >= 0 && step < steps[thing];
        }

        boolean hasSet(int set) {
            return set > 0 && set < 1 << heirs;
        }

        boolean isOpen(int thing) {
            return hasThing(thing) && live[STATE + thing] == TO_DO;
        }

        int skill(int heir, int trade) {
            return live[SKILL + heir * TRADES + trade];
        }

        void addSkill(int heir, int trade, int more) {
            live[SKILL + heir * TRADES + trade] += more;
        }

        int allSkills(int heir) {
            int all = 0;
            for (int trade = 0; trade < TRADES; trade++) {
                all += skill(heir, trade);
            }
            return all;
        }

        int heldBy(int heir) {
            int bits = 0;
            for (int thing = 0; thing < things; thing++) {
                if (live[HOLDER + thing] == heir) {
                    bits |= 1 << thing;
                }
            }
            return bits;
        }

        int countOf(int state) {
            int many = 0;
            for (int thing = 0; thing < things; thing++) {
                if (live[STATE + thing] == state) {
                    many++;
                }
            }
            return many;
        }

        int finishedValues() {
            int all = 0;
            for (int thing = 0; thing < things; thing++) {
                if (live[STATE + thing] == FINISHED) {
                    all += value[thing];
                }
            }
            return all;
        }

        private static int daysFor(int need, int skill) {
            return skill <= 0 ? NONE : (3 * need + skill - 1) / skill;
        }

        int stepDays(int heir, int thing, int step) {
            int at = thing * STEPS + step;
            return daysFor(needs[at], skill(heir, trades[at]));
        }

        /** Days of an HEIR for the STEPS behind so many; NONE if it can't. */
        int daysFrom(int heir, int thing, int done) {
            int all = 0;
            for (int at = thing * STEPS + done; at < thing * STEPS + steps[thing]; at++) {
                int days = daysFor(needs[at], live[SKILL + heir * TRADES + trades[at]]);
                if (days == NONE) {
                    return NONE;
                }
                all += days;
            }
            return all;
        }

        int aloneDays(int heir, int thing) {
            return daysFrom(heir, thing, live[DONE + thing]);
        }

        boolean isInTime(int thing, int days) {
            return days != NONE && live[DAY] + days <= rots[thing];
        }

        int daysInTime(int heir, int thing) {
            int days = aloneDays(heir, thing);
            return isInTime(thing, days) ? days : NONE;
        }

        int aloneInTime(int thing) {
            int bits = 0;
            for (int heir = 0; heir < heirs; heir++) {
                if (daysInTime(heir, thing) != NONE) {
                    bits |= 1 << heir;
                }
            }
            return bits;
        }

        private int bestSkill(int set, int trade) {
            int most = 0;
            for (int heir = 0; heir < heirs; heir++) {
                if ((set >> heir & 1) == 1) {
                    most = Math.max(most, skill(heir, trade));
                }
            }
            return most;
        }

        private int everyone() {
            return (1 << heirs) - 1;
        }

        int firstStuck(int thing) {
            for (int step = live[DONE + thing]; step < steps[thing]; step++) {
                if (bestSkill(everyone(), trades[thing * STEPS + step]) == 0) {
                    return step;
                }
            }
            return NONE;
        }

        int teamDays(int thing, int set) {
            int all = 0;
            for (int step = live[DONE + thing]; step < steps[thing]; step++) {
                int at = thing * STEPS + step;
                int days = daysFor(needs[at], bestSkill(set, trades[at]));
                if (days == NONE) {
                    return NONE;
                }
                all += days;
            }
            return all;
        }

        int fewestInTime(int thing) {
            int best = NONE;
            for (int set = 1; set <= everyone(); set++) {
                boolean fewer = best == NONE || Integer.bitCount(set) < Integer.bitCount(best);
                if (fewer && isInTime(thing, teamDays(thing, set))) {
                    best = set;
                }
            }
            return best;
        }

        int paidByGuilds() {
            int all = 0;
            for (int thing = 0; thing < things; thing++) {
                if (isOpen(thing) && aloneInTime(thing) == 0 && isInTime(thing, teamDays(thing, everyone()))) {
                    all += value[thing];
                }
            }
            return all;
        }

        void passDay() {
            Arrays.fill(busy, 0);
            for (int heir = 0; heir < heirs; heir++) {
                int thing = workOf(heir);
                if (thing != NONE) {
                    workAt(thing, heir);
                }
            }
            live[DAY]++;
            for (int thing = 0; thing < things; thing++) {
                if (live[STATE + thing] == TO_DO) {
                    closeDay(thing);
                }
            }
        }

        private int workOf(int heir) {
            for (int thing = 0; thing < things; thing++) {
                int step = live[DONE + thing];
                if (live[HOLDER + thing] == heir && isOpen(thing) && hasStep(thing, step)
                        && skill(heir, trades[thing * STEPS + step]) > 0) {
                    return thing;
                }
            }
            return NONE;
        }

        private void workAt(int thing, int heir) {
            int at = thing * STEPS + live[DONE + thing];
            int trade = trades[at];
            if (tools[trade] > 0 && busy[trade] >= tools[trade]) {
                return;
            }
            busy[trade]++;
            live[GOT + thing] += skill(heir, trade);
            if (live[GOT + thing] >= 3 * needs[at]) {
                live[GOT + thing] = 0;
                live[DONE + thing]++;
            }
        }

        private void closeDay(int thing) {
            if (live[DONE + thing] >= steps[thing]) {
                live[STATE + thing] = FINISHED;
                live[ENDED_ON + thing] = live[DAY];
                live[ENDED_BY + thing] = live[HOLDER + thing];
            } else if (rots[thing] <= live[DAY]) {
                live[STATE + thing] = ROTTEN;
            }
        }

        /** A GENERATION: how many SKILLS are above 0 then. */
        int raiseHeirs(long seed) {
            long x = seed;
            int able = 0;
            for (int at = SKILL; at < SKILL + heirs * TRADES; at++) {
                x = x * FACTOR + ADDEND;
                long drawn = (x >>> 33) % 10;
                if (drawn == 0) {
                    live[at] = 0;
                } else if (drawn == 1) {
                    live[at] = Math.min(live[at] + 1, MOST_SKILL);
                }
                if (live[at] > 0) {
                    able++;
                }
            }
            for (int thing = 0; thing < things; thing++) {
                live[HOLDER + thing] = NONE;
            }
            return able;
        }
    }

    /**
     * DEALINGS over sets of PLACES: THINGS to be done, by ROTS. An HEIR that can do a set in time in any order can do
     * it in that one, so one order is enough.
     */
    private static final class Dealer {
        /* A score is VALUES times this less digits: so the greatest is the most, and of several the least digits. */
        private static final int SCALE = 1000000;

        final int[] order = new int[THINGS];
        final int[] values = new int[SETS];
        final int[] tens = new int[SETS];
        final int[] span = new int[SETS];
        final int[] score = new int[SETS];
        int places;

        int full() {
            return (1 << places) - 1;
        }

        void lineUp(Estate will) {
            places = 0;
            for (int thing = 0; thing < will.things; thing++) {
                if (will.isOpen(thing)) {
                    putInOrder(will, thing);
                }
            }
            values[0] = 0;
            tens[0] = 0;
            for (int place = 0; place < places; place++) {
                int first = 1 << place;
                int ten = TENS[will.things - 1 - order[place]];
                for (int rest = 0; rest < first; rest++) {
                    values[first + rest] = values[rest] + will.value[order[place]];
                    tens[first + rest] = tens[rest] + ten;
                }
            }
        }

        private void putInOrder(Estate will, int thing) {
            int at = places;
            while (at > 0 && will.rots[order[at - 1]] > will.rots[thing]) {
                order[at] = order[at - 1];
                at--;
            }
            order[at] = thing;
            places++;
        }

        int placeOf(int thing) {
            for (int place = 0; place < places; place++) {
                if (order[place] == thing) {
                    return place;
                }
            }
            return NONE;
        }

        /** How long an HEIR that is free after some days is at each set; NONE where one of it is not in time. */
        private void spanSets(Estate will, int heir, int start) {
            span[0] = start;
            for (int place = 0; place < places; place++) {
                int thing = order[place];
                int days = will.aloneDays(heir, thing);
                int first = 1 << place;
                for (int rest = 0; rest < first; rest++) {
                    int all = days == NONE || span[rest] == NONE ? NONE : span[rest] + days;
                    span[first + rest] = will.isInTime(thing, all) ? all : NONE;
                }
            }
        }

        private void dealNothing() {
            for (int set = 0; set <= full(); set++) {
                score[set] = -NOBODY * tens[set];
            }
        }

        /** The best score of a set, if an HEIR too may take from it. */
        private int shareOf(int heir, int set) {
            int most = score[set];
            for (int part = set; part > 0; part = (part - 1) & set) {
                if (span[part] != NONE) {
                    int one = values[part] * SCALE - heir * tens[part] + score[set ^ part];
                    most = Math.max(most, one);
                }
            }
            return most;
        }

        /** From great sets to small ones: what is left of a set is smaller, so it is still as without the HEIR. */
        private void dealTo(Estate will, int heir) {
            spanSets(will, heir, 0);
            for (int set = full(); set > 0; set--) {
                score[set] = shareOf(heir, set);
            }
        }

        private void dealToAllBut(Estate will, int left) {
            dealNothing();
            for (int heir = 0; heir < will.heirs; heir++) {
                if (heir != left) {
                    dealTo(will, heir);
                }
            }
        }

        int dealAll(Estate will) {
            lineUp(will);
            dealToAllBut(will, NONE);
            return score[full()];
        }

        static int valuesOf(int score) {
            return Math.floorDiv(score + SCALE - 1, SCALE);
        }

        int digitsOf(Estate will, int score) {
            int digits = valuesOf(score) * SCALE - score;
            for (int thing = 0; thing < will.things; thing++) {
                if (!will.isOpen(thing)) {
                    digits += NOBODY * TENS[will.things - 1 - thing];
                }
            }
            return digits;
        }

        int learnBest(Estate will, int what) {
            lineUp(will);
            int most = NONE;
            int which = NONE;
            for (int heir = 0; heir < will.heirs; heir++) {
                dealToAllBut(will, heir);
                for (int trade = 0; trade < TRADES; trade++) {
                    if (will.skill(heir, trade) < MOST_SKILL) {
                        int all = valuesLearnt(will, heir, trade);
                        if (all > most) {
                            most = all;
                            which = heir * 10 + trade;
                        }
                    }
                }
            }
            return what == 0 ? which : most;
        }

        private int valuesLearnt(Estate will, int heir, int trade) {
            will.addSkill(heir, trade, 1);
            spanSets(will, heir, 0);
            will.addSkill(heir, trade, -1);
            return valuesOf(shareOf(heir, full()));
        }

        /** The most VALUES of PLACES within a set for which there is a span. */
        private int mostWithin(int set) {
            int most = 0;
            for (int part = set; part > 0; part = (part - 1) & set) {
                if (span[part] != NONE) {
                    most = Math.max(most, values[part]);
                }
            }
            return most;
        }

        int mostAlone(Estate will, int heir, int things) {
            lineUp(will);
            spanSets(will, heir, 0);
            int set = 0;
            for (int place = 0; place < places; place++) {
                if ((things >> order[place] & 1) == 1) {
                    set |= 1 << place;
                }
            }
            return mostWithin(set);
        }

        int spiteOn(Estate will, int heir, int what) {
            lineUp(will);
            int least = NONE;
            int which = NONE;
            for (int thing = 0; thing < will.things; thing++) {
                if (will.isOpen(thing)) {
                    int all = valuesBehind(will, heir, thing);
                    if (which == NONE || all < least) {
                        least = all;
                        which = thing;
                    }
                }
            }
            return what == 0 ? which : least;
        }

        private int valuesBehind(Estate will, int heir, int thing) {
            int days = will.aloneDays(heir, thing);
            int place = placeOf(thing);
            if (days == NONE || place == NONE) {
                return 0;
            }
            spanSets(will, heir, days);
            int all = mostWithin(full() & ~(1 << place));
            return will.isInTime(thing, days) ? all + will.value[thing] : all;
        }
    }

    /**
     * BEGIN: of each THING the STEPS that are begun lie within a range. The most within ranges is found by sets of
     * PLACES and what the days given to them cost; then each range is cut to one number, the least that loses nothing.
     */
    private static final class Dying {
        private static final int WIDTH = MOST_BEGUN + 1;
        private static final int MORE = STEPS + 1;

        final Dealer dealer;
        final int[] least = new int[THINGS];
        final int[] most = new int[THINGS];
        final int[] left = new int[THINGS];
        final int[] cost = new int[THINGS * MORE];
        final int[] days = new int[THINGS * MORE];
        final int[] quickest = new int[SETS * WIDTH];
        final int[] price = new int[SETS];
        final int[] gain = new int[SETS * WIDTH];

        Dying(Dealer dealer) {
            this.dealer = dealer;
        }

        int beginBest(Estate will, int n, int what) {
            dealer.lineUp(will);
            openRanges(will, n);
            int all = mostBegun(will, n);
            if (what == 1 || mostBegun(will, 0) == all) {
                return what == 1 ? all : 0;
            }
            int digits = 0;
            for (int thing = 0; thing < will.things; thing++) {
                int place = dealer.placeOf(thing);
                digits = digits * 10 + (place == NONE ? 0 : cutRange(will, n, place, all));
            }
            return digits;
        }

        private void openRanges(Estate will, int n) {
            for (int place = 0; place < dealer.places; place++) {
                int thing = dealer.order[place];
                int done = will.live[DONE + thing];
                left[place] = will.steps[thing] - done;
                least[place] = 0;
                most[place] = 0;
                cost[place * MORE] = 0;
                for (int more = 1; more <= left[place]; more++) {
                    int need = will.needs[thing * STEPS + done + more - 1];
                    cost[place * MORE + more] = cost[place * MORE + more - 1] + need;
                    if (cost[place * MORE + more] <= n) {
                        most[place] = more;
                    }
                }
            }
        }

        private int cutRange(Estate will, int n, int place, int all) {
            int last = most[place];
            for (int more = least[place]; more < last; more++) {
                least[place] = more;
                most[place] = more;
                if (mostBegun(will, n) == all) {
                    return more;
                }
            }
            least[place] = last;
            most[place] = last;
            return last;
        }

        /** The most VALUES by no more than n days; NONE if the ranges need more. */
        private int mostBegun(Estate will, int n) {
            int full = dealer.full();
            dealNothing(n);
            for (int heir = 0; heir < will.heirs; heir++) {
                findDays(will, heir);
                findPrices(will, n);
                /* Nobody comes behind the last HEIR and takes from smaller sets. */
                int last = heir == will.heirs - 1 ? full : 1;
                for (int set = full; set >= last; set--) {
                    shareOut(set, n);
                }
            }
            return gain[full * WIDTH + n];
        }

        private void dealNothing(int n) {
            for (int money = 0; money <= n; money++) {
                gain[money] = 0;
            }
            for (int place = 0; place < dealer.places; place++) {
                int first = 1 << place;
                for (int rest = 0; rest < first; rest++) {
                    for (int money = 0; money <= n; money++) {
                        int one = undealt(place, least[place], rest, money);
                        int other = most[place] == left[place] ? undealt(place, left[place], rest, money) : NONE;
                        gain[(first + rest) * WIDTH + money] = Math.max(one, other);
                    }
                }
            }
        }

        private int undealt(int place, int more, int rest, int money) {
            int over = money - cost[place * MORE + more];
            if (over < 0 || gain[rest * WIDTH + over] == NONE) {
                return NONE;
            }
            return gain[rest * WIDTH + over] + (more == left[place] ? dealer.values[1 << place] : 0);
        }

        private void findDays(Estate will, int heir) {
            for (int place = 0; place < dealer.places; place++) {
                int thing = dealer.order[place];
                int done = will.live[DONE + thing];
                for (int more = least[place]; more <= most[place]; more++) {
                    boolean complete = more == left[place];
                    days[place * MORE + more] = complete ? NONE : will.daysFrom(heir, thing, done + more);
                }
            }
        }

        /** The least that each set costs, so that the HEIR has time for all of it; NONE where no sum is enough. */
        private void findPrices(Estate will, int n) {
            for (int money = 0; money <= n; money++) {
                quickest[money] = 0;
            }
            price[0] = 0;
            for (int place = 0; place < dealer.places; place++) {
                int first = 1 << place;
                for (int rest = 0; rest < first; rest++) {
                    int set = first + rest;
                    price[set] = NONE;
                    /* What is too late for some money is too late for less. */
                    boolean good = price[rest] != NONE;
                    for (int money = n; money >= 0; money--) {
                        int time = good ? quickestBy(place, rest, money) : NONE;
                        good = will.isInTime(dealer.order[place], time);
                        quickest[set * WIDTH + money] = good ? time : NONE;
                        price[set] = good ? money : price[set];
                    }
                }
            }
        }

        private int quickestBy(int place, int rest, int money) {
            int best = NONE;
            for (int more = least[place]; more <= most[place]; more++) {
                int over = money - cost[place * MORE + more];
                int one = days[place * MORE + more];
                if (over >= 0 && one != NONE && quickest[rest * WIDTH + over] != NONE) {
                    int time = quickest[rest * WIDTH + over] + one;
                    best = best == NONE ? time : Math.min(best, time);
                }
            }
            return best;
        }

        private void shareOut(int set, int n) {
            for (int part = set; part > 0; part = (part - 1) & set) {
                if (price[part] != NONE) {
                    int to = set * WIDTH;
                    int from = (set ^ part) * WIDTH - price[part];
                    for (int money = price[part]; money <= n; money++) {
                        if (gain[from + money] != NONE) {
                            gain[to + money] = Math.max(gain[to + money], gain[from + money] + dealer.values[part]);
                        }
                    }
                }
            }
        }
    }

    /** GAMES: each HEIR picks a THING to be done, or none. */
    private static final class Game {
        private static final int NEVER = 1000000;

        final int[] choices = new int[THINGS + 1];
        final int[] picks = new int[PLAYERS];
        /* By HEIR and THING: who has the least rank of those who go for a THING has it. */
        final int[] rank = new int[PLAYERS * THINGS];
        final int[] wishes = new int[PLAYERS * THINGS];
        final int[] lead = new int[THINGS];
        int players;
        int things;

        void open(int heirs) {
            players = Math.min(heirs, PLAYERS);
            things = 0;
            choices[0] = NOBODY;
        }

        void addThing(int thing) {
            choices[things] = thing;
            things++;
            choices[things] = NOBODY;
        }

        void tellOf(int heir, int thing, int days, int wished) {
            rank[heir * THINGS + thing] = days == NONE ? NEVER : days * PLAYERS + heir;
            wishes[heir * THINGS + thing] = wished;
        }

        private boolean isChoice(int one) {
            for (int k = 0; k <= things; k++) {
                if (choices[k] == one) {
                    return true;
                }
            }
            return false;
        }

        /** False: no such row. */
        boolean takeRow(int row) {
            if (row < 0 || row >= TENS[players]) {
                return false;
            }
            for (int heir = 0; heir < players; heir++) {
                picks[heir] = row / TENS[players - 1 - heir] % 10;
                if (!isChoice(picks[heir])) {
                    return false;
                }
            }
            findLeads();
            return true;
        }

        private void findLeads() {
            Arrays.fill(lead, NEVER);
            for (int heir = 0; heir < players; heir++) {
                int pick = picks[heir];
                if (pick != NOBODY) {
                    lead[pick] = Math.min(lead[pick], rank[heir * THINGS + pick]);
                }
            }
        }

        int gainOf(int heir) {
            int pick = picks[heir];
            if (pick == NOBODY) {
                return 0;
            }
            int own = rank[heir * THINGS + pick];
            return own != NEVER && own == lead[pick] ? wishes[heir * THINGS + pick] : 0;
        }

        /** The lead of a THING that the HEIR does not go for is of others alone: to be ahead of it is to have it. */
        private boolean isContent(int heir) {
            int has = gainOf(heir);
            if (has < 0) {
                return false;
            }
            for (int k = 0; k < things; k++) {
                int at = heir * THINGS + choices[k];
                if (choices[k] != picks[heir] && rank[at] < lead[choices[k]] && wishes[at] > has) {
                    return false;
                }
            }
            return true;
        }

        private boolean areContent() {
            for (int heir = 0; heir < players; heir++) {
                if (!isContent(heir)) {
                    return false;
                }
            }
            return true;
        }

        /** The i-th row that RESTS (NONE: none), how many for i NONE. Choices rise, so rows do. */
        int restingRow(int i) {
            int rows = 1;
            for (int heir = 0; heir < players; heir++) {
                rows *= things + 1;
            }
            int found = 0;
            for (int row = 0; row < rows; row++) {
                int digits = pickBy(row);
                if (areContent()) {
                    if (found == i) {
                        return digits;
                    }
                    found++;
                }
            }
            return i == NONE ? found : NONE;
        }

        private int pickBy(int row) {
            int rest = row;
            int digits = 0;
            for (int heir = players - 1; heir >= 0; heir--) {
                picks[heir] = choices[rest % (things + 1)];
                rest /= things + 1;
                digits += picks[heir] * TENS[players - 1 - heir];
            }
            findLeads();
            return digits;
        }
    }
}
