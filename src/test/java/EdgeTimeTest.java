/** Edges of promises 11 (takes), 12 (alone), 13 (who), 14 (stuck), 15 (team), 16 (helpers) and 36 (sold). */
final class EdgeTimeTest {
    /** FINISHED, ROTTEN behind DAY 1, to be done. */
    private static final String THREE = "td1:a1;tr1:a9;tr40:a1b1;ha3b3;ha1";

    public static void main(String[] args) {
        roundedUp();
        takes();
        alone();
        inTime();
        who();
        stuck();
        team();
        helpers();
        sold();
        Check.finish();
    }

    private static HalfDone three() {
        HalfDone x = Check.with(THREE);
        x.days(1);
        return x;
    }

    private static void roundedUp() {
        Edge.says("it takes as many days as that needs, rounded up (what is over is lost)");
        for (int days = 1; days <= 9; days++) {
            HalfDone x = Check.with("t:a" + days + ";ha1;ha2;ha3;ha4;ha5;ha6");
            HalfDone y = Check.with("t:a" + days + ";ha7;ha8;ha9");
            for (int skill = 1; skill <= 9; skill++) {
                int want = 0;
                for (int got = 0; got < 3 * days; got += skill) {
                    want++;
                }
                int takes = skill <= 6 ? x.takes(skill - 1, 0, 0) : y.takes(skill - 7, 0, 0);
                Edge.due("SKILL " + skill + ", DAYS " + days, takes, want);
            }
        }
        HalfDone x = Check.with("t:a8a9;ha8;ha9");
        Edge.due("24 by 8", x.takes(0, 0, 0), 3);
        Edge.due("27 by 8", x.takes(0, 0, 1), 4);
        Edge.due("24 by 9", x.takes(1, 0, 0), 3);
        Edge.due("each STEP is rounded up apart", x.alone(0, 0), 7);
        Edge.says("with SKILL 0 it can't");
        HalfDone y = Check.with("t:a9;h;ha1");
        Edge.due("SKILL 0", y.takes(0, 0, 0), -1);
        Edge.due("SKILL 1", y.takes(1, 0, 0), 27);
    }

    private static void takes() {
        Edge.says("takes: NONE: SKILL 0, no such ones.");
        Edge.refused("takes(0, 0, 0) without a WILL", Edge::none, o -> o.takes(0, 0, 0), -1);
        for (int far : new int[] {-1, 4, Integer.MIN_VALUE, Integer.MAX_VALUE}) {
            Edge.refused("HEIR " + far, Edge::amid, o -> o.takes(far, 0, 0), -1);
            Edge.refused("THING " + far, Edge::amid, o -> o.takes(0, far, 0), -1);
            Edge.refused("STEP " + far, Edge::amid, o -> o.takes(0, 0, far), -1);
        }
        HalfDone x = Edge.amid();
        Edge.due("HEIR 1 of two", x.takes(1, 0, 0), 1);
        Edge.due("HEIR 2 of two", x.takes(2, 0, 0), -1);
        Edge.due("STEP 1 of two", x.takes(0, 0, 1), 5);
        Edge.due("STEP 2 of two", x.takes(0, 0, 2), -1);
        Edge.due("a STEP of THING 3", x.takes(1, 3, 0), 9);
        Edge.due("SKILL 0", x.takes(0, 3, 0), -1);
        HalfDone y = Edge.full();
        Edge.due("the last of all", y.takes(5, 5, 7), 4);
        Edge.due("HEIR 6", y.takes(6, 5, 7), -1);
        Edge.due("THING 6", y.takes(5, 6, 7), -1);
        Edge.due("STEP 8", y.takes(5, 5, 8), -1);
    }

    private static void alone() {
        Edge.says("alone: NONE: it can't, no such ones, FINISHED or ROTTEN.");
        Edge.refused("alone(0, 0) without a WILL", Edge::none, o -> o.alone(0, 0), -1);
        for (int far : new int[] {-1, 4, Integer.MIN_VALUE, Integer.MAX_VALUE}) {
            Edge.refused("HEIR " + far, Edge::amid, o -> o.alone(far, 0), -1);
            Edge.refused("THING " + far, Edge::amid, o -> o.alone(0, far), -1);
        }
        Edge.refused("it can't: no SKILL", EdgeTimeTest::three, o -> o.alone(1, 2), -1);
        Edge.refused("FINISHED", EdgeTimeTest::three, o -> o.alone(0, 0), -1);
        Edge.refused("ROTTEN", EdgeTimeTest::three, o -> o.alone(0, 1), -1);
        Edge.due("one to be done", three().alone(0, 2), 2);
        Edge.due("HEIR 2 of two", three().alone(2, 2), -1);
        Edge.due("THING 3 of three", three().alone(0, 3), -1);
        HalfDone x = Check.with("tr1:a9a9a9a9a9a9a9a9;td7:a9a9a9a9a9a9a9a1;ha1");
        Edge.due("as many as there may be, late or not", x.alone(0, 0), 216);
        Edge.due("LEFT: those behind DONE", x.alone(0, 1), 3);
        Edge.says("a STEP begun is looked at as not begun");
        HalfDone y = Check.with("t:a1a1;ha2");
        y.give(0, 0);
        y.days(1);
        Edge.due("has got 2 of 3", y.alone(0, 0), 4);
        y.days(1);
        Edge.due("DONE", y.alone(0, 0), 2);
        y.days(1);
        Edge.due("has got 2 of 3", y.alone(0, 0), 2);
        Edge.says("SKILL 0 in what is DONE is not asked");
        Edge.due("alone", Check.with("td1:b1a1;ha3").alone(0, 0), 1);
        Edge.due("alone", Check.with("td1:a1b1;ha3").alone(0, 0), -1);
    }

    private static void inTime() {
        Edge.says("It is IN TIME, if DAY and these are no more than ROTS.");
        for (int rots = 5; rots <= 7; rots++) {
            HalfDone x = Check.with("tv9r" + rots + ":a6;t:a1;ha3");
            boolean good = rots >= 6;
            Edge.due("six days, ROTS " + rots + ": who", x.who(0), good ? 1 : 0);
            Edge.due("helpers", x.helpers(0), good ? 1 : -1);
            Edge.due("best", x.best(0, 1), good ? 9 : 0);
            Edge.due("gains", x.gains(0, 0), good ? 9 : 0);
        }
        HalfDone x = Check.with("tv9r8:a6;ha3");
        for (int day = 0; day <= 3; day++) {
            Edge.due("DAY " + day + ", six days, ROTS 8: who", x.who(0), day <= 2 ? 1 : 0);
            Edge.due("helpers", x.helpers(0), day <= 2 ? 1 : -1);
            Edge.due("deal", x.deal(1), day <= 2 ? 9 : 0);
            Edge.due("alone all the same", x.alone(0, 0), 6);
            Edge.due("team all the same", x.team(0, 1), 6);
            x.days(1);
        }
    }

    private static void who() {
        Edge.says("who: NONE: no such THING, FINISHED or ROTTEN.");
        Edge.refused("who(0) without a WILL", Edge::none, o -> o.who(0), -1);
        for (int far : new int[] {-1, 3, 6, Integer.MIN_VALUE, Integer.MAX_VALUE}) {
            Edge.refused("THING " + far, EdgeTimeTest::three, o -> o.who(far), -1);
        }
        Edge.refused("FINISHED", EdgeTimeTest::three, o -> o.who(0), -1);
        Edge.refused("ROTTEN", EdgeTimeTest::three, o -> o.who(1), -1);
        Edge.due("one to be done", three().who(2), 1);
        Edge.due("nobody: 0", Check.with("t:a1;h").who(0), 0);
        Edge.due("all six", Check.with("t:a1;" + Edge.clauses("ha1", 5) + "ha1").who(0), 63);
        Edge.due("the last alone", Check.with("t:a1;h;h;h;h;h;ha1").who(0), 32);
    }

    private static void stuck() {
        Edge.says("stuck: NONE: none, no such THING, FINISHED or ROTTEN.");
        Edge.refused("stuck(0) without a WILL", Edge::none, o -> o.stuck(0), -1);
        for (int far : new int[] {-1, 3, 6, Integer.MIN_VALUE, Integer.MAX_VALUE}) {
            Edge.refused("THING " + far, EdgeTimeTest::three, o -> o.stuck(far), -1);
        }
        HalfDone x = Check.with("td1:c1;tr1:c1;t:a1b1;ha3;hb3");
        Edge.due("none: each by somebody", x.stuck(2), -1);
        Edge.due("FINISHED", x.stuck(0), -1);
        Edge.due("not ROTTEN yet", x.stuck(1), 0);
        x.days(1);
        Edge.due("ROTTEN", x.stuck(1), -1);
        Edge.says("STUCK: the first STEP LEFT (0 ..) for which nobody has SKILL.");
        Edge.due("the first", Check.with("t:b1a1b1;ha1").stuck(0), 0);
        Edge.due("the last of eight", Check.with("t:a1a1a1a1a1a1a1b1;ha1;h").stuck(0), 7);
        Edge.due("the first LEFT", Check.with("td1:b1b1b1;ha1").stuck(0), 1);
        Edge.due("the last LEFT", Check.with("td2:b1a1a1b1;ha1").stuck(0), 3);
        Edge.due("what is DONE is not asked", Check.with("td1:b1a1;ha1").stuck(0), -1);
        Edge.due("late or not", Check.with("tr1:a9b1;ha1").stuck(0), 1);
    }

    private static void team() {
        Edge.says("team: NONE: it can't, no such set, FINISHED or ROTTEN.");
        Edge.refused("team(0, 1) without a WILL", Edge::none, o -> o.team(0, 1), -1);
        for (int far : new int[] {-1, 3, 6, Integer.MIN_VALUE, Integer.MAX_VALUE}) {
            Edge.refused("THING " + far, EdgeTimeTest::three, o -> o.team(far, 1), -1);
        }
        for (int far : new int[] {-1, 0, 4, 5, 64, Integer.MIN_VALUE, Integer.MAX_VALUE}) {
            Edge.refused("the set " + far + " of two HEIRS", EdgeTimeTest::three, o -> o.team(2, far), -1);
        }
        Edge.refused("FINISHED", EdgeTimeTest::three, o -> o.team(0, 3), -1);
        Edge.refused("ROTTEN", EdgeTimeTest::three, o -> o.team(1, 3), -1);
        Edge.refused("it can't", EdgeTimeTest::three, o -> o.team(2, 2), -1);
        Edge.due("one can", three().team(2, 1), 2);
        Edge.due("all of two", three().team(2, 3), 2);
        HalfDone x = Edge.full();
        Edge.due("all of six", x.team(5, 63), 32);
        Edge.due("the last of six", x.team(5, 32), 32);
        Edge.due("one more than six", x.team(5, 64), -1);
        Edge.says("days, if each STEP is done by the quickest of these");
        HalfDone y = Check.with("tr1d1:c1a3b3;ha3b1;ha1b9;hb8a9");
        Edge.due("team(0, 1)", y.team(0, 1), 12);
        Edge.due("team(0, 2)", y.team(0, 2), 10);
        Edge.due("team(0, 3)", y.team(0, 3), 4);
        Edge.due("team(0, 4)", y.team(0, 4), 3);
        Edge.due("team(0, 5)", y.team(0, 5), 3);
        Edge.due("team(0, 7)", y.team(0, 7), 2);
    }

    private static void helpers() {
        Edge.says("helpers: NONE: none can, no such THING, FINISHED or ROTTEN.");
        Edge.refused("helpers(0) without a WILL", Edge::none, o -> o.helpers(0), -1);
        for (int far : new int[] {-1, 3, 6, Integer.MIN_VALUE, Integer.MAX_VALUE}) {
            Edge.refused("THING " + far, EdgeTimeTest::three, o -> o.helpers(far), -1);
        }
        Edge.refused("FINISHED", EdgeTimeTest::three, o -> o.helpers(0), -1);
        Edge.refused("ROTTEN", EdgeTimeTest::three, o -> o.helpers(1), -1);
        Edge.due("one to be done", three().helpers(2), 1);
        Edge.due("none can: no SKILL", Check.with("t:a1b1;ha9").helpers(0), -1);
        Edge.due("none can: no time", Check.with("tr1:a1b1;ha9b9").helpers(0), -1);
        Edge.due("none can: all of six are late", Check.with("tr1:a9;ha8;ha8;ha8;ha8;ha8;ha8").helpers(0), -1);
        Edge.says("HELPERS: the fewest HEIRS (bits; of several the least) whose TEAM is IN TIME.");
        Edge.due("one, the least", Check.with("t:a1;h;ha1;ha2").helpers(0), 2);
        Edge.due("one, the only one", Check.with("t:a1b1;ha3;hb3;ha1b1").helpers(0), 4);
        Edge.due("one is late, two are the fewest", Check.with("tr2:a1b1;ha3;hb3;ha1b1").helpers(0), 3);
        Edge.due("two, the least", Check.with("tr2:a1b1;ha3;h;ha3;hb3").helpers(0), 9);
        Edge.due("three of four", Check.with("t:a1b1c1;ha1;h;hb1;hc1").helpers(0), 13);
        Edge.due("five", Check.with("t:a1b1c1d1e1;he1;hd1;hc1;hb1;ha1;h").helpers(0), 31);
        Edge.due("six are no more than needed", Check.with("t:a1b1c1d1e1;h;he1;hd1;hc1;hb1;ha1").helpers(0), 62);
    }

    private static void sold() {
        Edge.says("sold: NONE: no WILL.");
        Edge.refused("sold() without a WILL", Edge::none, HalfDone::sold, -1);
        Edge.says("VALUES of THINGS that nobody ALONE finishes IN TIME, but all HEIRS as a TEAM do");
        String heirs = ":a2b2;ha3b1;ha1b3";
        // alone 2 + 6 or 6 + 2 days, as a TEAM 4
        Edge.due("the TEAM is late", Check.with("tv9r3" + heirs).sold(), 0);
        Edge.due("the TEAM is just IN TIME", Check.with("tv9r4" + heirs).sold(), 9);
        Edge.due("each ALONE is just late", Check.with("tv9r7" + heirs).sold(), 9);
        Edge.due("each ALONE is just IN TIME", Check.with("tv9r8" + heirs).sold(), 0);
        Edge.due("VALUE 0", Check.with("tv0r4" + heirs).sold(), 0);
        Edge.due("all six", Check.with(Edge.clauses("tv99r1:a1", 6) + "ha2;ha1").sold(), 0);
        Edge.due("all six", Check.with(Edge.clauses("tv99:a1b1", 6) + "ha1;hb1").sold(), 594);
        Edge.due("nobody can", Check.with("tv9:a1c1;ha3;hb3").sold(), 0);
        Edge.due("one HEIR is a TEAM that is not more", Check.with("tv9r1:a1b1;ha9b9").sold(), 0);
        HalfDone x = Check.with("tv9r6" + heirs);
        for (int day = 0; day <= 3; day++) {
            Edge.due("ROTS 6, DAY " + day, x.sold(), day <= 2 ? 9 : 0);
            x.days(1);
        }
        HalfDone y = Check.with("tv1d2:a1b1;tv2r1:a1b1;tv4:a1b1;ha3;hb3");
        Edge.due("FINISHED ones are not sold, nor is what is late", y.sold(), 4);
        y.days(1);
        Edge.due("ROTTEN ones are not sold", y.sold(), 4);
    }
}
