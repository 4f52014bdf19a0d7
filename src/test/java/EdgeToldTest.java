/** Edges of promises 6 (thing), 7 (step), 8 (heir), 9 (tools), 37 (sign) and 40 (count). */
final class EdgeToldTest {
    public static void main(String[] args) {
        thing();
        step();
        heir();
        tools();
        sign();
        count();
        mostAndLeast();
        sixApart();
        Check.finish();
    }

    private static void thing() {
        Edge.says("thing: NoSuchElementException: no such ones.");
        for (int what = -1; what <= 9; what++) {
            int w = what;
            Edge.refused("thing(0, " + w + ") without a WILL", Edge::none, o -> Check.thing(o, 0, w), Check.THROWN);
            Edge.refused("thing(4, " + w + ") of four", Edge::amid, o -> Check.thing(o, 4, w), Check.THROWN);
            Edge.refused("thing(-1, " + w + ") of four", Edge::amid, o -> Check.thing(o, -1, w), Check.THROWN);
        }
        for (int thing = 0; thing < 4; thing++) {
            int t = thing;
            Edge.refused("thing(" + t + ", -1)", Edge::amid, o -> Check.thing(o, t, -1), Check.THROWN);
            Edge.refused("thing(" + t + ", 9)", Edge::amid, o -> Check.thing(o, t, 9), Check.THROWN);
        }
        for (int far : Edge.FAR) {
            Edge.refused("thing(" + far + ", 0)", Edge::amid, o -> Check.thing(o, far, 0), Check.THROWN);
            Edge.refused("thing(0, " + far + ")", Edge::amid, o -> Check.thing(o, 0, far), Check.THROWN);
        }
        HalfDone x = Edge.full();
        Edge.due("thing(5, 0) of six", Check.thing(x, 5, 0), 10);
        Edge.due("thing(6, 0) of six", Check.thing(x, 6, 0), Check.THROWN);
        Edge.due("thing(5, 8) of six", Check.thing(x, 5, 8), -1);
        HalfDone y = Check.with("t:a1;h");
        Edge.due("thing(0, 0) of one", Check.thing(y, 0, 0), 10);
        Edge.due("thing(1, 0) of one", Check.thing(y, 1, 0), Check.THROWN);
        Edge.says("thing: 0 VALUE, 1 ROTS, 2 DONE, 3 STEPS, 4 who HOLDS it, 5 how it is, 6 got, 7 DAY, 8 by whom");
        int[][] want = {{20, 40, 1, 2, 0, 0, 0, -1, -1}, {5, 9, 1, 2, 1, 0, 6, -1, -1}, {7, 30, 2, 2, -1, 1, 0, 0, -1},
            {10, 1, 0, 1, -1, 2, 0, -1, -1}};
        HalfDone z = Edge.amid();
        for (int thing = 0; thing < 4; thing++) {
            for (int what = 0; what <= 8; what++) {
                Edge.due("thing(" + thing + ", " + what + ")", Check.thing(z, thing, what), want[thing][what]);
            }
        }
        Edge.says("4 who HOLDS it (NONE), 7 on which DAY it was FINISHED (NONE), 8 by whom (NONE)");
        z.give(0, -1);
        Edge.due("nobody HOLDS it", Check.thing(z, 0, 4), -1);
        z.days(1);
        Edge.due("it was FINISHED on DAY 3", Check.thing(z, 1, 7), 3);
        Edge.due("by HEIR 1", Check.thing(z, 1, 8), 1);
        Edge.due("HEIR 1 HOLDS it still", Check.thing(z, 1, 4), 1);
        Edge.due("nothing has been got", Check.thing(z, 1, 6), 0);
    }

    private static void step() {
        Edge.says("step: NONE: no such ones.");
        Edge.refused("step(0, 0, 0) without a WILL", Edge::none, o -> o.step(0, 0, 0), -1);
        for (int wrong : new int[] {-1, 4, Integer.MIN_VALUE, Integer.MAX_VALUE}) {
            Edge.refused("step(" + wrong + ", 0, 0) of four", Edge::amid, o -> o.step(wrong, 0, 0), -1);
        }
        for (int wrong : new int[] {-1, 2, 8, Integer.MIN_VALUE, Integer.MAX_VALUE}) {
            Edge.refused("step(0, " + wrong + ", 0) of two", Edge::amid, o -> o.step(0, wrong, 0), -1);
            Edge.refused("step(0, 0, " + wrong + ")", Edge::amid, o -> o.step(0, 0, wrong), -1);
        }
        HalfDone x = Edge.amid();
        Edge.due("step(3, 0, 0)", x.step(3, 0, 0), 2);
        Edge.due("step(3, 0, 1)", x.step(3, 0, 1), 9);
        Edge.due("step(3, 1, 0) of one STEP", x.step(3, 1, 0), -1);
        Edge.due("step(1, 0, 1), DONE", x.step(1, 0, 1), 1);
        Edge.due("step(0, 1, 0)", x.step(0, 1, 0), 1);
        Edge.due("step(0, 1, 1)", x.step(0, 1, 1), 3);
        HalfDone y = Edge.full();
        Edge.due("step(5, 7, 1) of eight", y.step(5, 7, 1), 9);
        Edge.due("step(5, 8, 1) of eight", y.step(5, 8, 1), -1);
        Edge.due("step(6, 0, 0) of six", y.step(6, 0, 0), -1);
    }

    private static void heir() {
        Edge.says("heir: NONE: no such ones.");
        Edge.refused("heir(0, 0) without a WILL", Edge::none, o -> o.heir(0, 0), -1);
        for (int wrong : new int[] {-1, 2, Integer.MIN_VALUE, Integer.MAX_VALUE}) {
            Edge.refused("heir(" + wrong + ", 0) of two", Edge::amid, o -> o.heir(wrong, 0), -1);
            Edge.refused("heir(" + wrong + ", 6) of two", Edge::amid, o -> o.heir(wrong, 6), -1);
        }
        for (int wrong : new int[] {-1, 7, Integer.MIN_VALUE, Integer.MAX_VALUE}) {
            Edge.refused("heir(0, " + wrong + ")", Edge::amid, o -> o.heir(0, wrong), -1);
        }
        HalfDone x = Edge.full();
        Edge.due("heir(5, 0) of six", x.heir(5, 0), 8);
        Edge.due("heir(6, 0) of six", x.heir(6, 0), -1);
        Edge.says("heir: 0 .. 4 SKILLS, 5 KIN, 6 THINGS that it HOLDS (bits)");
        HalfDone y = Edge.amid();
        int[][] want = {{3, 2, 0, 0, 0, 1, 1}, {6, 1, 3, 0, 0, 2, 2}};
        for (int heir = 0; heir < 2; heir++) {
            for (int what = 0; what <= 6; what++) {
                Edge.due("heir(" + heir + ", " + what + ")", y.heir(heir, what), want[heir][what]);
            }
        }
        HalfDone z = Check.with("t:a1;t:a1;t:a1;t:a1;t:a1;t:a1;h;h");
        Edge.due("none", z.heir(1, 6), 0);
        for (int thing = 0; thing < 6; thing++) {
            z.give(thing, 1);
        }
        Edge.due("all six", z.heir(1, 6), 63);
        Edge.due("of another none", z.heir(0, 6), 0);
    }

    private static void tools() {
        Edge.says("tools: NONE: no such one, no WILL.");
        for (int trade = -1; trade <= 5; trade++) {
            int t = trade;
            Edge.refused("tools(" + t + ") without a WILL", Edge::none, o -> o.tools(t), -1);
        }
        for (int wrong : new int[] {-1, 5, Integer.MIN_VALUE, Integer.MAX_VALUE}) {
            Edge.refused("tools(" + wrong + ")", Edge::amid, o -> o.tools(wrong), -1);
        }
        Edge.says("How many TOOLS of a TRADE.");
        for (int many = 0; many <= 4; many++) {
            HalfDone x = Check.with(Edge.clauses("ge", many) + Edge.clauses("ga", 4 - many) + "t:a1;h");
            Edge.due("tools(4)", x.tools(4), many);
            Edge.due("tools(0)", x.tools(0), 4 - many);
            Edge.due("tools(2)", x.tools(2), 0);
        }
    }

    private static void sign() {
        Edge.says("sign: NONE: no such ones.");
        for (int wrong : new int[] {-1, 1, Integer.MIN_VALUE, Integer.MAX_VALUE}) {
            Edge.refused("sign(" + wrong + ", -1) of one", Edge::none, o -> o.sign(wrong, -1), -1);
            Edge.refused("sign(" + wrong + ", 0) of one", Edge::none, o -> o.sign(wrong, 0), -1);
        }
        for (int wrong : new int[] {-2, 2, 12, Integer.MIN_VALUE, Integer.MAX_VALUE}) {
            Edge.refused("sign(0, " + wrong + ") of two signs", Edge::none, o -> o.sign(0, wrong), -1);
        }
        Edge.due("sign(0, 0) of none", new HalfDone().sign(0, 0), -1);
        Edge.due("sign(0, -1) of none", new HalfDone().sign(0, -1), -1);
        Edge.says("sign: A sign of a BEGINNING (i 0 ..), its length (i NONE).");
        HalfDone x = Edge.full();
        Edge.due("sign(3, -1)", x.sign(3, -1), 12);
        Edge.due("sign(3, 0)", x.sign(3, 0), 1);
        Edge.due("sign(3, 11)", x.sign(3, 11), 3);
        Edge.due("sign(3, 12)", x.sign(3, 12), -1);
        Edge.due("sign(4, -1)", x.sign(4, -1), -1);
        HalfDone y = Edge.amid();
        Edge.due("sign(1, -1)", y.sign(1, -1), 1);
        Edge.due("sign(1, 0)", y.sign(1, 0), 5);
        Edge.due("sign(1, 1)", y.sign(1, 1), -1);
        Edge.due("the WILL is asked for nothing", Edge.none().sign(0, 1), 2);
    }

    private static void count() {
        Edge.says("count: HIDDEN for others.");
        for (int wrong : new int[] {-1, 13, Integer.MIN_VALUE, Integer.MAX_VALUE}) {
            Edge.refused("count(" + wrong + ") without a WILL", Edge::none, o -> o.count(wrong), -1000000);
            Edge.refused("count(" + wrong + ")", Edge::amid, o -> o.count(wrong), -1000000);
        }
        Edge.says("count: 0 THINGS .. 12 VALUES of those FINISHED");
        int[] want = {4, 2, 1, 2, 2, 4, 2, 0, 2, 5, 1, 1, 7};
        HalfDone x = Edge.amid();
        for (int what = 0; what <= 12; what++) {
            Edge.due("count(" + what + ")", x.count(what), want[what]);
        }
        int[] without = {0, 0, 0, 2, 1, 4, 0, -1, 0, 0, 0, 0, 0};
        HalfDone y = Edge.none();
        for (int what = 0; what <= 12; what++) {
            Edge.due("count(" + what + ") without a WILL", y.count(what), without[what]);
        }
    }

    private static void mostAndLeast() {
        Edge.says("count at the most there may be");
        int[] want = {6, 6, 4, 6, 4, 240, 0, 5, 12, 40, 0, 0, 0};
        HalfDone x = Edge.full();
        for (int what = 0; what <= 12; what++) {
            Edge.due("count(" + what + ")", x.count(what), want[what]);
        }
        HalfDone y = Edge.late();
        Edge.due("the DAY", y.count(6), 999);
        HalfDone z = Check.with(Edge.clauses("tv99d1:a1", 6) + "h");
        Edge.due("all FINISHED", z.count(10), 6);
        Edge.due("VALUES of these", z.count(12), 594);
        HalfDone w = Check.with(Edge.clauses("tv99r1:a1", 6) + "h");
        Edge.due("none is ROTTEN on DAY 0", w.count(11), 0);
        w.days(1);
        Edge.due("all are ROTTEN", w.count(11), 6);
        Edge.due("VALUES of none", w.count(12), 0);
    }

    /** THING t is done by HEIR 5 - t, of SKILL 6 - t, in two STEPS that need 6 and 27. */
    private static void sixApart() {
        Edge.says("thing: each of six THINGS by itself, on each DAY");
        HalfDone x = Check.with("tr60:a2a9;tr60:a2a9;tr60:a2a9;tr60:a2a9;tr60:a2a9;tr60:a2a9;ha1;ha2;ha3;ha4;ha5;ha6");
        for (int thing = 0; thing < 6; thing++) {
            x.give(thing, 5 - thing);
        }
        for (int day = 0; day <= 34; day++) {
            for (int thing = 0; thing < 6; thing++) {
                int skill = 6 - thing;
                int first = (6 + skill - 1) / skill;
                int last = first + (27 + skill - 1) / skill;
                boolean over = day >= last;
                int got = over ? 0 : day >= first ? (day - first) * skill : day * skill;
                int[] want = {10, 60, over ? 2 : day >= first ? 1 : 0, 2, 5 - thing, over ? 1 : 0, got, over ? last : -1,
                    over ? 5 - thing : -1};
                for (int what = 0; what <= 8; what++) {
                    Edge.due("thing(" + thing + ", " + what + ") on DAY " + day, Check.thing(x, thing, what), want[what]);
                }
            }
            x.days(1);
        }
    }
}
