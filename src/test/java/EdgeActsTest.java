import java.math.BigInteger;

/** Edges of promises 17 (give), 18 (teach), 19 (days), 20 (generation) and 21 (undo). */
final class EdgeActsTest {
    public static void main(String[] args) {
        give();
        teach();
        days();
        gotEnough();
        lowest();
        tools();
        rotten();
        generation();
        draws();
        undo();
        forty();
        Check.finish();
    }

    private static void give() {
        Edge.says("give: NONE: no such ones, it is so, FINISHED or ROTTEN.");
        Edge.refused("give(0, 0) without a WILL", Edge::none, o -> o.give(0, 0), -1);
        Edge.refused("give(0, -1) without a WILL", Edge::none, o -> o.give(0, -1), -1);
        for (int far : new int[] {-1, 4, 6, Integer.MIN_VALUE, Integer.MAX_VALUE}) {
            Edge.refused("THING " + far, Edge::amid, o -> o.give(far, 0), -1);
            Edge.refused("THING " + far + " to nobody", Edge::amid, o -> o.give(far, -1), -1);
        }
        for (int far : new int[] {-2, 2, 6, Integer.MIN_VALUE, Integer.MAX_VALUE}) {
            Edge.refused("to HEIR " + far, Edge::amid, o -> o.give(0, far), -1);
        }
        Edge.refused("it is so: HEIR 0", Edge::amid, o -> o.give(0, 0), -1);
        Edge.refused("it is so: HEIR 1", Edge::amid, o -> o.give(1, 1), -1);
        Edge.refused("it is so: nobody", () -> Check.with("t:a1;h"), o -> o.give(0, -1), -1);
        Edge.refused("FINISHED", Edge::amid, o -> o.give(2, 0), -1);
        Edge.refused("ROTTEN", Edge::amid, o -> o.give(3, 0), -1);
        HalfDone held = Check.with("tr1:a9;t:a1;ha3;ha3");
        held.give(0, 0);
        held.give(1, 1);
        held.days(1);
        Edge.due("ROTTEN and held, to nobody", held.give(0, -1), -1);
        Edge.due("FINISHED and held, to nobody", held.give(1, -1), -1);
        Edge.says("A THING is given (heir NONE: to nobody): how many ACTS can be UNDONE.");
        HalfDone x = Check.with("t:a1;t:a1;t:a1;t:a1;t:a1;t:a1;h;h;h;h;h;h");
        for (int heir = 0; heir <= 5; heir++) {
            Edge.due("give(5, " + heir + ")", x.give(5, heir), heir + 1);
            Edge.due("who HOLDS it", Check.thing(x, 5, 4), heir);
        }
        Edge.due("give(5, 6)", x.give(5, 6), -1);
        Edge.due("give(6, 5)", x.give(6, 5), -1);
        Edge.due("give(5, -1)", x.give(5, -1), 7);
        Edge.due("who HOLDS it", Check.thing(x, 5, 4), -1);
    }

    private static void teach() {
        Edge.says("teach: NONE: no such ones, it is 9.");
        Edge.refused("teach(0, 0) without a WILL", Edge::none, o -> o.teach(0, 0), -1);
        for (int far : new int[] {-1, 2, 6, Integer.MIN_VALUE, Integer.MAX_VALUE}) {
            Edge.refused("HEIR " + far, Edge::amid, o -> o.teach(far, 0), -1);
        }
        for (int far : new int[] {-1, 5, Integer.MIN_VALUE, Integer.MAX_VALUE}) {
            Edge.refused("TRADE " + far, Edge::amid, o -> o.teach(0, far), -1);
        }
        for (int trade = 1; trade <= 4; trade++) {
            int t = trade;
            Edge.refused("it is 9: TRADE " + t, Edge::full, o -> o.teach(5, t), -1);
        }
        Edge.says("An HEIR learns: its SKILL (SKILL 1 more)");
        HalfDone x = Check.with("t:a1;h;h;h;h;h;h");
        for (int skill = 1; skill <= 9; skill++) {
            Edge.due("teach(5, 4)", x.teach(5, 4), skill);
            Edge.due("heir(5, 4)", x.heir(5, 4), skill);
            Edge.due("ACTS", x.count(9), skill);
        }
        Edge.due("teach(5, 4)", x.teach(5, 4), -1);
        Edge.due("heir(5, 4)", x.heir(5, 4), 9);
        Edge.due("another of its TRADES", x.teach(5, 0), 1);
        Edge.due("that TRADE of another", x.teach(0, 4), 1);
        Edge.due("HEIR 6 of six", x.teach(6, 4), -1);
        HalfDone y = Edge.full();
        Edge.due("8 and 1", y.teach(5, 0), 9);
        Edge.due("9 and 1", y.teach(5, 0), -1);
    }

    private static void days() {
        Edge.says("days: NONE: no WILL, out of bounds, the DAY would be above 999.");
        Edge.refused("days(1) without a WILL", Edge::none, o -> o.days(1), -1);
        Edge.refused("days(99) without a WILL", Edge::none, o -> o.days(99), -1);
        for (int far : new int[] {-99, -1, 0, 100, 999, Integer.MIN_VALUE, Integer.MAX_VALUE}) {
            Edge.refused("days(" + far + ")", Edge::amid, o -> o.days(far), -1);
        }
        for (int n = 1; n <= 99; n += 49) {
            int many = n;
            Edge.refused("days(" + many + ") on DAY 999", Edge::late, o -> o.days(many), -1);
        }
        Edge.due("days(1)", Check.with("t:a1;h").days(1), 1);
        Edge.due("days(2)", Check.with("t:a1;h").days(2), 2);
        Edge.due("days(98)", Check.with("t:a1;h").days(98), 98);
        Edge.due("days(99)", Check.with("t:a1;h").days(99), 99);
        for (int day = 899; day <= 902; day++) {
            HalfDone x = Check.with("t:a1;h");
            for (int k = 0; k < 9; k++) {
                x.days(99);
            }
            Edge.due("days up to " + day, x.days(day - 891), day);
            Edge.due("days(99) from " + day, x.days(99), day <= 900 ? day + 99 : -1);
            Edge.due("the DAY", x.count(6), day <= 900 ? day + 99 : day);
        }
        HalfDone y = Edge.late();
        y.undo();
        y.undo();
        Edge.due("the DAY", y.count(6), 997);
        Edge.due("days(3)", y.days(3), -1);
        Edge.due("days(2)", y.days(2), 999);
        Edge.due("days(1)", y.days(1), -1);
    }

    private static void gotEnough() {
        Edge.says("if it has three times its DAYS, it is DONE (what is over is lost)");
        for (int skill = 4; skill <= 7; skill++) {
            HalfDone x = Check.with("t:a4a1;ha" + skill);
            x.give(0, 0);
            x.days(1);
            Edge.due("12 by " + skill + " on DAY 1", Check.thing(x, 0, 6), skill);
            x.days(1);
            boolean done = skill >= 6;
            Edge.due("12 by " + skill + " on DAY 2: DONE", Check.thing(x, 0, 2), done ? 1 : 0);
            Edge.due("has got", Check.thing(x, 0, 6), done ? 0 : 2 * skill);
            x.days(1);
            Edge.due("12 by " + skill + " on DAY 3: DONE", Check.thing(x, 0, 2), done ? 2 : 1);
        }
        HalfDone y = Check.with("t:a1a1;ha9");
        y.give(0, 0);
        y.days(1);
        Edge.due("one STEP a day at most", Check.thing(y, 0, 2), 1);
        Edge.due("not FINISHED", Check.thing(y, 0, 5), 0);
        y.days(1);
        Edge.due("FINISHED", Check.thing(y, 0, 5), 1);
        Edge.says("A STEP that one began another goes on with");
        HalfDone z = Check.with("t:a2;ha2;ha3;ha1");
        z.give(0, 0);
        z.days(1);
        z.give(0, 1);
        z.days(1);
        Edge.due("2 and 3", Check.thing(z, 0, 6), 5);
        z.give(0, 2);
        z.days(1);
        Edge.due("2 and 3 and 1: FINISHED", Check.thing(z, 0, 5), 1);
        Edge.due("by who HOLDS it", Check.thing(z, 0, 8), 2);
        Edge.due("the day it was finished", Check.thing(z, 0, 7), 3);
    }

    private static void lowest() {
        Edge.says("at the lowest THING that they HOLD that is not FINISHED nor ROTTEN and for whose next STEP they have SKILL");
        HalfDone x = Check.with("t:a1;tr1:a9;t:b1;t:a1;t:a1;ha3;hb9");
        x.give(1, 0);
        x.give(2, 0);
        x.give(4, 0);
        x.days(1);
        Edge.due("THING 0 nobody HOLDS", Check.thing(x, 0, 6), 0);
        Edge.due("THING 1", Check.thing(x, 1, 6), 3);
        Edge.due("it is ROTTEN then", Check.thing(x, 1, 5), 2);
        Edge.due("THING 4 not yet", Check.thing(x, 4, 2), 0);
        x.days(1);
        Edge.due("nobody works at what is ROTTEN", Check.thing(x, 1, 6), 3);
        Edge.due("no SKILL for THING 2", Check.thing(x, 2, 6), 0);
        Edge.due("THING 3 another may HOLD", Check.thing(x, 3, 6), 0);
        Edge.due("THING 4", Check.thing(x, 4, 5), 1);
        x.days(1);
        Edge.due("nothing is left to it", x.heir(0, 6), 22);
        x.give(2, 1);
        x.days(1);
        Edge.due("one with SKILL", Check.thing(x, 2, 5), 1);
        Edge.says("nobody holds one at first");
        HalfDone y = Check.with("t:a1;ha9");
        y.days(29);
        Edge.due("nobody works", Check.thing(y, 0, 2) + Check.thing(y, 0, 6), 0);
    }

    private static HalfDone withTools(int tools, int heirs) {
        HalfDone x = Check.with(Edge.clauses("ga", tools) + "gb;" + Edge.clauses("t:a9", heirs) + Edge.clauses("ha1", heirs - 1)
                + "ha1");
        for (int k = 0; k < heirs; k++) {
            x.give(k, k);
        }
        return x;
    }

    private static void tools() {
        Edge.says("if there are TOOLS of its TRADE, no more HEIRS than there are such TOOLS work in that TRADE on that day");
        for (int tools = 0; tools <= 3; tools++) {
            for (int heirs = 1; heirs <= 4; heirs++) {
                HalfDone x = withTools(tools, heirs);
                x.days(1);
                for (int k = 0; k < heirs; k++) {
                    Edge.due(tools + " TOOLS, HEIR " + k + " of " + heirs, Check.thing(x, k, 6), tools == 0 || k < tools ? 1 : 0);
                }
                x.days(1);
                Edge.due("each day anew", Check.thing(x, 0, 6), 2);
            }
        }
        Edge.says("(the first ones; others rest)");
        HalfDone y = Check.with("ga;t:a1;t:a1;t:b1;ha3;ha3b3");
        y.give(0, 0);
        y.give(1, 1);
        y.give(2, 1);
        y.days(1);
        Edge.due("who has no TOOL rests from THING 1", Check.thing(y, 1, 2), 0);
        Edge.due("and from THING 2", Check.thing(y, 2, 2), 0);
        y.days(1);
        Edge.due("who has nothing to do leaves the TOOL", Check.thing(y, 1, 2), 1);
        y.days(1);
        Edge.due("then THING 2", Check.thing(y, 2, 2), 1);
    }

    private static void rotten() {
        Edge.says("one that is not, with ROTS no more than the DAY that has ended (counted from 1), is ROTTEN");
        for (int rots = 1; rots <= 3; rots++) {
            HalfDone x = Check.with("tr" + rots + ":a9;h");
            for (int day = 0; day <= 4; day++) {
                Edge.due("ROTS " + rots + " on DAY " + day, Check.thing(x, 0, 5), day >= rots ? 2 : 0);
                x.days(1);
            }
        }
        HalfDone late = Check.with("tr99:a9;h");
        late.days(98);
        Edge.due("ROTS 99 on DAY 98", Check.thing(late, 0, 5), 0);
        late.days(1);
        Edge.due("ROTS 99 on DAY 99", Check.thing(late, 0, 5), 2);
        Edge.says("At the end of a DAY a THING with all STEPS DONE is FINISHED (if it was not ROTTEN)");
        for (int rots = 1; rots <= 3; rots++) {
            HalfDone x = Check.with("tr" + rots + ":a2;ha3");
            x.give(0, 0);
            x.days(2);
            Edge.due("two days, ROTS " + rots, Check.thing(x, 0, 5), rots >= 2 ? 1 : 2);
            Edge.due("on which DAY", Check.thing(x, 0, 7), rots >= 2 ? 2 : -1);
            Edge.due("by whom", Check.thing(x, 0, 8), rots >= 2 ? 0 : -1);
            x.days(3);
            Edge.due("it stays so", Check.thing(x, 0, 5), rots >= 2 ? 1 : 2);
            Edge.due("DONE", Check.thing(x, 0, 2), rots >= 2 ? 1 : 0);
        }
        Edge.says("A THING with all STEPS DONE at first is FINISHED on DAY 0 by nobody.");
        for (int done = 0; done <= 2; done++) {
            HalfDone x = Check.with("tr1d" + done + ":a1a1;h");
            Edge.due(done + " of two DONE", Check.thing(x, 0, 5), done == 2 ? 1 : 0);
            Edge.due("on which DAY", Check.thing(x, 0, 7), done == 2 ? 0 : -1);
            Edge.due("by whom", Check.thing(x, 0, 8), -1);
            x.days(1);
            Edge.due("on DAY 1", Check.thing(x, 0, 5), done == 2 ? 1 : 2);
        }
    }

    private static final BigInteger ROUND = BigInteger.ONE.shiftLeft(64);

    /** x, at first the seed, as a number without sign. */
    private static BigInteger next(BigInteger x) {
        return x.multiply(new BigInteger("6364136223846793005")).add(new BigInteger("1442695040888963407")).mod(ROUND);
    }

    private static void raised(long seed, int skill) {
        StringBuilder text = new StringBuilder("t:a1");
        for (int heir = 0; heir < 6; heir++) {
            text.append(";h");
            for (char trade = 'a'; trade <= 'e'; trade++) {
                text.append(trade).append(skill);
            }
        }
        HalfDone o = Check.with(text.toString());
        o.give(0, 3);
        BigInteger x = BigInteger.valueOf(seed).mod(ROUND);
        int[] want = new int[30];
        int able = 0;
        for (int k = 0; k < 30; k++) {
            x = next(x);
            int draw = x.shiftRight(33).mod(BigInteger.TEN).intValue();
            want[k] = draw == 0 ? 0 : draw == 1 ? Math.min(9, skill + 1) : skill;
            able += want[k] > 0 ? 1 : 0;
        }
        Edge.due("generation(" + seed + ") from SKILLS of " + skill, o.generation(seed), able);
        for (int k = 0; k < 30; k++) {
            Edge.due("heir(" + k / 5 + ", " + k % 5 + ") by seed " + seed, o.heir(k / 5, k % 5), want[k]);
        }
        Edge.due("nobody HOLDS anything", Check.thing(o, 0, 4), -1);
        Edge.due("ACTS", o.count(9), 2);
        Edge.due("undo()", o.undo(), 1);
        Edge.due("SKILLS are as before", o.heir(0, 0) + o.heir(5, 4), 2 * skill);
        Edge.due("it is held as before", Check.thing(o, 0, 4), 3);
    }

    private static void generation() {
        Edge.says("generation: NONE: no WILL.");
        for (long seed : new long[] {0, 1, -1, Long.MIN_VALUE, Long.MAX_VALUE}) {
            Edge.refused("generation(" + seed + ")", Edge::none, o -> o.generation(seed), -1);
        }
        Edge.says("(64 bits, going round); (x shifted right by 33, without sign) modulo m");
        long[] seeds = {0, 1, -1, 2, 5, 9, Long.MIN_VALUE, Long.MAX_VALUE, 1L << 32, 1L << 33, -(1L << 33), 4294967295L,
            1442695040888963407L, -1442695040888963407L, 123456789012345678L};
        for (long seed : seeds) {
            raised(seed, 4);
        }
        Edge.says("0: its SKILL is 0, 1: it is 1 more (9 at most)");
        for (long seed = 100; seed < 104; seed++) {
            raised(seed, 0);
            raised(seed, 1);
            raised(seed, 8);
            raised(seed, 9);
        }
    }

    private static void draws() {
        Edge.says("then nobody HOLDS anything");
        HalfDone x = Check.with("tr1:a9;t:a1;td1:a1;t:a9;ha3;hb3");
        x.give(0, 0);
        x.give(3, 1);
        x.days(1);
        x.give(1, 0);
        x.days(1);
        Edge.due("one ROTTEN, one FINISHED, one not", x.heir(0, 6) * 10 + x.heir(1, 6), 38);
        x.generation(5);
        Edge.due("of none any more", x.heir(0, 6) * 10 + x.heir(1, 6), 0);
        Edge.due("who FINISHED it stays", Check.thing(x, 1, 8), 0);
        Edge.due("the DAY stays", x.count(6), 2);
        Edge.due("what has been got stays", Check.thing(x, 0, 6), 3);
        Edge.due("give(3, -1): it is so", x.give(3, -1), -1);
        Edge.due("give(0, 0): ROTTEN", x.give(0, 0), -1);
    }

    private static void undo() {
        Edge.says("undo: NONE: none.");
        Edge.refused("undo() without a WILL", Edge::none, HalfDone::undo, -1);
        Edge.refused("undo() of a new WILL", () -> Check.with("t:a1;h"), HalfDone::undo, -1);
        Edge.refused("undo() of no more", () -> {
            HalfDone one = Edge.amid();
            for (int k = 4; k >= 0; k--) {
                Edge.due("undo()", one.undo(), k);
            }
            return one;
        }, HalfDone::undo, -1);
        Edge.refused("undo() behind back()", () -> {
            HalfDone one = Edge.amid();
            one.back();
            return one;
        }, HalfDone::undo, -1);
        Edge.says("ACTS: given, learns, DAYS (each one), a GENERATION");
        HalfDone x = Check.with("t:a9;ha3");
        Edge.due("give", x.give(0, 0), 1);
        x.teach(0, 0);
        Edge.due("teach", x.count(9), 2);
        x.days(3);
        Edge.due("days(3)", x.count(9), 5);
        x.generation(9);
        Edge.due("generation", x.count(9), 6);
        x.image();
        x.ended(0, 0, 1);
        x.law(-1);
        Edge.due("image, ended, law are none", x.count(9), 6);
        Edge.due("undo()", x.undo(), 5);
        Edge.due("undo()", x.undo(), 4);
        Edge.due("the DAY", x.count(6), 2);
        Edge.due("has got", Check.thing(x, 0, 6), 8);
        x.undo();
        x.undo();
        Edge.due("the DAY", x.count(6), 0);
        Edge.due("SKILL", x.heir(0, 0), 4);
        x.undo();
        Edge.due("SKILL", x.heir(0, 0), 3);
        Edge.due("held", x.heir(0, 6), 1);
        Edge.due("undo()", x.undo(), 0);
        Edge.due("not held", x.heir(0, 6), 0);
        Edge.due("undo()", x.undo(), -1);
        Edge.due("an ACT that was UNDONE may be done again", x.give(0, 0), 1);
    }

    private static void forty() {
        Edge.says("The latest (40 at most) can be UNDONE one by one.");
        for (int acts = 39; acts <= 42; acts++) {
            HalfDone x = Check.with("tr99:a9;ha1");
            x.days(acts);
            int can = Math.min(acts, 40);
            Edge.due(acts + " ACTS: count(9)", x.count(9), can);
            for (int left = can - 1; left >= 0; left--) {
                Edge.due("undo()", x.undo(), left);
                Edge.due("the DAY", x.count(6), acts - can + left);
            }
            Edge.due("undo() of no more", x.undo(), -1);
            Edge.due("the DAY", x.count(6), acts - can);
        }
        HalfDone x = Check.with("tr99:a9;ha1");
        for (int k = 1; k <= 43; k++) {
            Edge.due("give, " + k, x.give(0, k % 2 == 1 ? 0 : -1), Math.min(k, 40));
        }
        for (int left = 39; left >= 0; left--) {
            Edge.due("undo()", x.undo(), left);
            Edge.due("who HOLDS it", Check.thing(x, 0, 4), left % 2 == 0 ? 0 : -1);
        }
        Edge.due("undo()", x.undo(), -1);
        Edge.due("days(1)", x.days(1), 1);
        Edge.due("one more can be UNDONE", x.count(9), 1);
    }
}
