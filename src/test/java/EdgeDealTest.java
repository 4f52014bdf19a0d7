/** Edges of promises 22 (deal), 23 (best), 24 (learn), 25 (begin) and 26 (spite). */
final class EdgeDealTest {
    private static final int[] NO_SUCH_WHAT = {-1, 2, Integer.MIN_VALUE, Integer.MAX_VALUE};
    private static final String ALL_NINE = "ha9b9c9d9e9";

    public static void main(String[] args) {
        deal();
        dealInTime();
        dealLeast();
        best();
        learn();
        learnLeast();
        begin();
        beginLeast();
        spite();
        spiteInTime();
        Check.finish();
    }

    private static HalfDone over() {
        HalfDone x = Check.with("tr1:a1;td1:a1;ha3;h");
        x.give(0, 0);
        x.days(1);
        return x;
    }

    private static void dealt(String will, int digits, int values) {
        HalfDone x = Check.with(will);
        Edge.due("deal(0) of " + will, x.deal(0), digits);
        Edge.due("deal(1) of " + will, x.deal(1), values);
    }

    private static void deal() {
        Edge.says("deal: NONE: no WILL, no such what.");
        for (int what = -1; what <= 2; what++) {
            int w = what;
            Edge.refused("deal(" + w + ") without a WILL", Edge::none, o -> o.deal(w), -1);
        }
        for (int what : NO_SUCH_WHAT) {
            Edge.refused("deal(" + what + ")", Edge::amid, o -> o.deal(what), -1);
            Edge.refused("deal(" + what + ") of a full one", Edge::full, o -> o.deal(what), -1);
        }
        Edge.says("DEAL: digits (0; those not asked 9), VALUES (1)");
        dealt("td1:a1;h", 9, 0);
        dealt("td1:a1;td1:a1;h", 99, 0);
        dealt("td1:a1;tv3:a1;ha3", 90, 3);
        dealt("tv3:a1;td1:a1;ha3", 9, 3);
        Edge.due("one FINISHED, one FINISHED at first", over().deal(0), 99);
        Edge.due("their VALUES are not asked", over().deal(1), 0);
        HalfDone x = Check.with("tv7r1:b1;tv5:a1;ha3");
        Edge.due("to be done", x.deal(0), 90);
        x.days(1);
        Edge.due("ROTTEN", x.deal(0), 90);
        Edge.due("the other", x.deal(1), 5);
        dealt("t:a1;h;h;h;h;h;ha1", 5, 10);
        dealt("t:a1;t:b1;t:c1;t:d1;t:e1;tv99:a1;he1;hd1;hc1;hb1;h;ha1", 532105, 149);
        dealt("tv99:a1;tv99:a1;tv99:a1;tv99:a1;tv99:a1;tv99:a1;ha9", 0, 594);
        dealt("tv0:b1;tv0:b1;tv0:b1;tv0:b1;tv0:b1;tv0:b1;ha9", 999999, 0);
        Edge.says("TOOLS not asked; STEPS begun as not begun");
        dealt("tr1:a1;tr1:a1;ha3;ha3;ga", 1, 20);
        for (int rots = 2; rots <= 3; rots++) {
            HalfDone y = Check.with("tr" + rots + ":a2;ha3");
            y.give(0, 0);
            y.days(1);
            Edge.due("ROTS " + rots + ", half of it is done", y.deal(1), rots == 3 ? 10 : 0);
        }
    }

    private static void dealInTime() {
        Edge.says("an HEIR does its THINGS one behind the other, the order best for it, each IN TIME, all of them");
        dealt("tv3r3:a2;tv4r3:a2;ha3", 90, 4);
        dealt("tv3r4:a2;tv4r3:a2;ha3", 0, 7);
        dealt("tv3r3:a2;tv4r4:a2;ha3", 0, 7);
        dealt("tv3r2:a2;tv4r4:a2;ha3", 0, 7);
        dealt("tv3r2:a2;tv4r3:a2;ha3", 90, 4);
        dealt("tv3r1:a2;tv4r2:a2;ha3", 90, 4);
        dealt("tv3r1:a2;tv4r1:a2;ha3", 99, 0);
        dealt("tr6:a1;tr5:a1;tr4:a1;tr3:a1;tr2:a1;tr1:a1;ha3", 0, 60);
        dealt("tr5:a1;tr5:a1;tr4:a1;tr3:a1;tr2:a1;tr1:a1;ha3", 9, 50);
        dealt("tv1r9:a1;tv2r5:a1;tv4r3:a1;tv8r2:a1;ha3", 0, 15);
        dealt("tv1r4:a1;tv2r3:a1;tv4r2:a1;tv8r1:a1;ha3", 0, 15);
        dealt("tv1r3:a1;tv2r3:a1;tv4r2:a1;tv8r1:a1;ha3", 9000, 14);
        dealt("tv1r1:a1;tv2r6:a1;tv4r3:a1;tv8r2:a1;tv16r5:a1;tv32r4:a1;ha3", 0, 63);
        HalfDone x = Check.with("tv3r4:a2;tv4r4:a2;ha3");
        Edge.due("DAY 0", x.deal(0) * 100 + x.deal(1), 7);
        x.days(1);
        Edge.due("DAY 1", x.deal(0) * 100 + x.deal(1), 9004);
        x.days(1);
        Edge.due("DAY 2", x.deal(0) * 100 + x.deal(1), 9004);
        x.days(1);
        Edge.due("DAY 3", x.deal(0) * 100 + x.deal(1), 9900);
    }

    private static void dealLeast() {
        Edge.says("VALUES together are greatest (of several the least as digits by THINGS: the HEIR, 9 nobody, THING 0 the highest)");
        dealt("tv5r2:a2;tv5r2:a2;tv5r2:a2;ha3;ha3", 19, 10);
        dealt("tv5r2:a2;tv5r2:a2;tv6r2:a2;ha3;ha3", 91, 11);
        dealt("tv0:a1;ha3", 0, 0);
        dealt("tv0r1:a1;tv0r1:a1;ha3", 9, 0);
        dealt("tv1r1:a1;tv0r1:a1;ha3", 9, 1);
        dealt("tv0r1:a1;tv1r1:a1;ha3", 90, 1);
        dealt("tv9r1:a1;tv9r1:b1;ha3b3;ha3", 10, 18);
        dealt("tv9r1:a1;tv9r1:b1;ha3b3;ha3b3", 1, 18);
        dealt("tv9r2:a1;tv9r2:b1;ha3b3;ha3b3", 0, 18);
    }

    private static void best() {
        Edge.says("best: NONE: no such ones.");
        Edge.refused("best(0, 0) without a WILL", Edge::none, o -> o.best(0, 0), -1);
        Edge.refused("best(0, 1) without a WILL", Edge::none, o -> o.best(0, 1), -1);
        for (int far : new int[] {-1, 2, 6, Integer.MIN_VALUE, Integer.MAX_VALUE}) {
            Edge.refused("HEIR " + far, Edge::amid, o -> o.best(far, 1), -1);
        }
        for (int far : new int[] {-16, -1, 16, 17, 64, Integer.MIN_VALUE, Integer.MAX_VALUE}) {
            Edge.refused("the set " + far + " of four THINGS", Edge::amid, o -> o.best(0, far), -1);
        }
        HalfDone x = Check.with("t:a1;t:a1;t:a1;t:a1;t:a1;t:a1;h;h;h;h;h;ha3");
        Edge.due("all of six", x.best(5, 63), 60);
        Edge.due("the last of six", x.best(5, 32), 10);
        Edge.due("one more", x.best(5, 64), -1);
        Edge.due("HEIR 6", x.best(6, 63), -1);
        HalfDone one = Check.with("t:a1;ha3");
        Edge.due("one of one", one.best(0, 1), 10);
        Edge.due("a second of one", one.best(0, 2), -1);
        Edge.due("none of one", one.best(0, 0), 0);
        Edge.says("VALUES that an HEIR can finish of a set of THINGS by itself, the best of them in the best order");
        HalfDone y = Check.with("tv1r3:a1;tv2r3:a1;tv4r3:a1;tv8r3:a1;ha3;h");
        int[] want = {0, 1, 2, 3, 4, 5, 6, 7, 8, 9, 10, 11, 12, 13, 14, 14};
        for (int set = 0; set < 16; set++) {
            Edge.due("best(0, " + set + ")", y.best(0, set), want[set]);
            Edge.due("best(1, " + set + ")", y.best(1, set), 0);
        }
        y.days(1);
        Edge.due("two of four on DAY 1", y.best(0, 15), 12);
        y.days(1);
        Edge.due("one of four on DAY 2", y.best(0, 15), 8);
        y.days(1);
        Edge.due("all are ROTTEN on DAY 3", y.best(0, 15), 0);
        Edge.due("FINISHED ones are not asked", over().best(0, 3), 0);
    }

    private static void learnt(String will, int which, int values) {
        HalfDone x = Check.with(will);
        Edge.due("learn(0) of " + will, x.learn(0), which);
        Edge.due("learn(1) of " + will, x.learn(1), values);
    }

    private static void learn() {
        Edge.says("learn: NONE: no WILL, no such what, all are 9.");
        for (int what = -1; what <= 2; what++) {
            int w = what;
            Edge.refused("learn(" + w + ") without a WILL", Edge::none, o -> o.learn(w), -1);
        }
        for (int what : NO_SUCH_WHAT) {
            Edge.refused("learn(" + what + ")", Edge::amid, o -> o.learn(what), -1);
        }
        for (int what = 0; what <= 1; what++) {
            int w = what;
            Edge.refused("all of one are 9", () -> Check.with("t:a1;" + ALL_NINE), o -> o.learn(w), -1);
            Edge.refused("all of six are 9", () -> Check.with(Edge.clauses(ALL_NINE, 6) + "t:a1"), o -> o.learn(w), -1);
        }
        learnt(Edge.clauses(ALL_NINE, 5) + "ha9b9c9d9e8;tv7:a1", 54, 7);
        learnt("ha8b9c9d9e9;" + Edge.clauses(ALL_NINE, 5) + "tv7:a1", 0, 7);
        HalfDone x = Check.with("t:a1;ha9b9c9d9e8");
        Edge.due("one is 8", x.learn(0), 4);
        x.teach(0, 4);
        Edge.due("all are 9 then", x.learn(0), -1);
        x.undo();
        Edge.due("one is 8 again", x.learn(0), 4);
        Edge.says("by which, SKILL 1 more (9 at most), DEAL gets the most; how much it is then");
        learnt("tv7r1:a1;ha1", 0, 0);
        learnt("tv7r1:a1;ha2", 0, 7);
        learnt("tv7r1:a3;ha7", 0, 0);
        learnt("tv7r1:a3;ha8", 0, 7);
        learnt("tv7r1:a3;ha9", 1, 7);
        learnt("tv7r3:a1;h", 0, 7);
        learnt("tv7r2:a1;h", 0, 0);
        learnt("tv7r1:e3;h;h;h;h;h;he8", 54, 7);
        learnt("tv7r1:e3;tv5r1:a1;ha3;h;h;h;h;he8", 54, 12);
        learnt("td1:a1;h", 0, 0);
        learnt("td1:a1;ha9", 1, 0);
    }

    private static void learnLeast() {
        Edge.says("LEARN (of several the least)");
        learnt("tv7r1:c1;tv7r1:d1;hc2d2", 2, 7);
        learnt("tv7r1:c1;tv8r1:d1;hc2d2", 3, 8);
        learnt("tv7r1:c1;h;hc2;hc2", 12, 7);
        learnt("tv7r1:e1;tv7r1:a1;he2;ha2", 4, 7);
        learnt("tv7r1:a1b1;ha3b3", 0, 0);
        learnt("t:a1;ha9b9c9d9e9;h", 10, 10);
        Edge.due("it changes no SKILL", Check.with("tv7r1:a1;ha2").heir(0, 0), 2);
    }

    private static void begun(String will, int n, int digits, int values) {
        HalfDone x = Check.with(will);
        Edge.due("begin(" + n + ", 0) of " + will, x.begin(n, 0), digits);
        Edge.due("begin(" + n + ", 1) of " + will, x.begin(n, 1), values);
    }

    private static void begin() {
        Edge.says("begin: NONE: no WILL, out of bounds.");
        for (int what = 0; what <= 1; what++) {
            int w = what;
            for (int n = 0; n <= 12; n += 6) {
                int many = n;
                Edge.refused("begin(" + many + ", " + w + ") without a WILL", Edge::none, o -> o.begin(many, w), -1);
            }
            for (int n : new int[] {-1, 13, Integer.MIN_VALUE, Integer.MAX_VALUE}) {
                Edge.refused("begin(" + n + ", " + w + ")", Edge::amid, o -> o.begin(n, w), -1);
            }
        }
        for (int what : NO_SUCH_WHAT) {
            Edge.refused("begin(3, " + what + ")", Edge::amid, o -> o.begin(3, what), -1);
        }
        Edge.says("BEGIN with n (0 .. 12) days; by DAYS of these together no more than n");
        begun("t:a1;ha3", 0, 0, 10);
        begun("tv7r1:a1;h", 0, 0, 0);
        begun("tv7r1:a1;h", 1, 1, 7);
        begun("tv7r1:a5;h", 4, 0, 0);
        begun("tv7r1:a5;h", 5, 1, 7);
        begun("tv7r1:a5;h", 6, 1, 7);
        begun("tv7r1:a6a5;h", 10, 0, 0);
        begun("tv7r1:a6a5;h", 11, 2, 7);
        begun("tv7r1:a6a6;h", 11, 0, 0);
        begun("tv7r1:a6a6;h", 12, 2, 7);
        begun("tv7r1:a7a6;h", 12, 0, 0);
        begun("tr1:a1a1a1a1a1a1a1a1;h", 7, 0, 0);
        begun("tr1:a1a1a1a1a1a1a1a1;h", 8, 8, 10);
        begun("tr1:a1a1a1a1a1a1a1a1;ha3", 7, 7, 10);
        begun("tr1:a1a1a1a1a1a1a1a1;ha3", 6, 0, 0);
        begun("tr1d7:a1a1a1a1a1a1a1a1;h", 1, 1, 10);
        begun("tr1d8:a1a1a1a1a1a1a1a1;h", 12, 0, 0);
    }

    private static void beginLeast() {
        Edge.says("that DEAL and VALUES of those complete are greatest (of several the least as digits)");
        begun("tv5r1:a1;tv5r1:a1;h", 1, 1, 5);
        begun("tv6r1:a1;tv5r1:a1;h", 1, 10, 6);
        begun("tv5r1:a1;tv5r1:a1;h", 2, 11, 10);
        begun("tv0r1:a1;h", 1, 0, 0);
        begun("tv7r2:a2a2;ha3", 1, 0, 0);
        begun("tv7r2:a2a2;ha3", 2, 1, 7);
        begun("tv7r2:a2a2;ha3", 4, 1, 7);
        begun("tv7r1:a2a2;ha3", 4, 2, 7);
        begun("tv7r4:a2a2;ha3", 4, 0, 7);
        String six = "h;tv1r1:a1;tv1r1:a1;tv1r1:a1;tv1r1:a1;tv1r1:a1;tv1r1:a1";
        begun(six, 0, 0, 0);
        begun(six, 1, 1, 1);
        begun(six, 5, 11111, 5);
        begun(six, 6, 111111, 6);
        begun(six, 12, 111111, 6);
        String three = "h;tv1r1:a1b2;tv2r1:c3d1;tv4r1:e2";
        int[] digits = {0, 0, 1, 1, 1, 201, 21, 21, 21, 221, 221, 221, 221};
        int[] values = {0, 0, 4, 4, 4, 5, 6, 6, 6, 7, 7, 7, 7};
        for (int n = 0; n <= 12; n++) {
            begun(three, n, digits[n], values[n]);
        }
        String shared = "tv7r2:a2a2;tv5r1:b2;ha3";
        int[] both = {0, 0, 10, 10, 11, 11, 11};
        int[] all = {0, 0, 7, 7, 12, 12, 12};
        for (int n = 0; n <= 6; n++) {
            begun(shared, n, both[n], all[n]);
        }
        // one by the HEIR behind one STEP, the others complete
        begun("tv5r1:b2;tv7r2:a2a2;tv3r1:c1d1;ha3", 5, 110, 12);
        begun("tv5r1:b2;tv7r2:a2a2;tv3r1:c1d1;ha3", 6, 112, 15);
        String steps = "tv5r3:b2a2;tv7r3:a2a1;tv3r4:b1a1";
        int[] byOne = {0, 1, 1, 1, 110, 111};
        int[] valuesByOne = {7, 10, 10, 10, 12, 15};
        int[] byTwo = {0, 1, 100, 101, 101, 101};
        int[] valuesByTwo = {7, 10, 12, 15, 15, 15};
        for (int n = 0; n <= 5; n++) {
            begun(steps + ";ha3", n, byOne[n], valuesByOne[n]);
            begun(steps + ";ha3;ha3", n, byTwo[n], valuesByTwo[n]);
        }
        Edge.says("THINGS that are then complete count as FINISHED, not dealt");
        begun("tv7r1:a1;tv5r1:a1;ha3", 1, 1, 12);
        begun("td1v9:a1;tv3r1:a2;h", 1, 0, 0);
        begun("td1v9:a1;tv3r1:a2;h", 2, 1, 3);
        Edge.says("(SKILL 3 in all, DAY as it is)");
        HalfDone x = Check.with("tv7r2:a2e4;tv9r9:b3;h");
        x.days(1);
        Edge.due("begin(6, 1)", x.begin(6, 1), 9);
        Edge.due("begin(8, 1)", x.begin(8, 1), 9);
        Edge.due("begin(9, 1)", x.begin(9, 1), 16);
        Edge.due("begin(9, 0)", x.begin(9, 0), 21);
        x.days(1);
        Edge.due("THING 0 is ROTTEN: begin(12, 1)", x.begin(12, 1), 9);
        Edge.due("begin(12, 0)", x.begin(12, 0), 1);
        for (int day = 0; day <= 2; day++) {
            HalfDone y = Check.with("tv7r3:a2a2;ha3");
            if (day > 0) {
                y.days(day);
            }
            Edge.due("two days LEFT behind one STEP, ROTS 3, DAY " + day, y.begin(2, 1), day <= 1 ? 7 : 0);
        }
        Edge.due("nothing to be done", over().begin(12, 0) + over().begin(12, 1), 0);
    }

    private static void spited(String will, int which, int values) {
        HalfDone x = Check.with(will);
        Edge.due("spite(0, 0) of " + will, x.spite(0, 0), which);
        Edge.due("spite(0, 1) of " + will, x.spite(0, 1), values);
    }

    private static void spite() {
        Edge.says("spite: NONE: no such HEIR, nothing to be done, no such what.");
        for (int what = 0; what <= 1; what++) {
            int w = what;
            Edge.refused("spite(0, " + w + ") without a WILL", Edge::none, o -> o.spite(0, w), -1);
            for (int far : new int[] {-1, 2, 6, Integer.MIN_VALUE, Integer.MAX_VALUE}) {
                Edge.refused("spite(" + far + ", " + w + ") of two HEIRS", Edge::amid, o -> o.spite(far, w), -1);
            }
            for (int heir = 0; heir <= 1; heir++) {
                int h = heir;
                Edge.refused("nothing to be done", EdgeDealTest::over, o -> o.spite(h, w), -1);
                Edge.refused("nothing to be done at first", () -> Check.with("td1:a1;h;h"), o -> o.spite(h, w), -1);
            }
        }
        for (int what : NO_SUCH_WHAT) {
            Edge.refused("spite(0, " + what + ")", Edge::amid, o -> o.spite(0, what), -1);
        }
        HalfDone x = Check.with("td1:a1;tv3:a1;h;h;h;h;h;ha3");
        Edge.due("one is to be done: spite(5, 0)", x.spite(5, 0), 1);
        Edge.due("spite(5, 1)", x.spite(5, 1), 3);
        Edge.due("spite(6, 0)", x.spite(6, 0), -1);
        Edge.says("(One it can't do at all: it can do nothing else then.)");
        spited("tv9:a1;tv7:b1;ha3", 1, 0);
        spited("tv9:b1;tv7:c1;ha3", 0, 0);
        spited("tv9:a1;tv7:a1b1;tv5:a1;ha3", 1, 0);
        spited("tv0:b1;h", 0, 0);
    }

    private static void spiteInTime() {
        Edge.says("if it had to be done by it first of all, whether IN TIME or not; that THING counted if IN TIME");
        spited("tv9r2:a3;tv7r3:a1;ha3", 0, 0);
        spited("tv9r2:a3;tv7r4:a1;ha3", 0, 7);
        spited("tv9r3:a3;tv7r3:a1;ha3", 1, 7);
        spited("tv9r3:a3;tv7r4:a1;ha3", 1, 7);
        spited("tv9r4:a3;tv7r4:a1;ha3", 0, 16);
        spited("tv9r4:a3;tv7r3:a1;ha3", 0, 9);
        Edge.says("SPITE: least (of several the lowest); how much");
        spited("tv9:a1;tv9:a1;tv9:a1;ha3", 0, 27);
        spited("tv9r2:a1;tv8r2:a1;tv7r2:a1;ha3", 2, 16);
        HalfDone x = Check.with("tv9r4:a3;tv7r4:a1;ha3");
        x.days(1);
        Edge.due("on DAY 1", x.spite(0, 0), 1);
        Edge.due("on DAY 1", x.spite(0, 1), 7);
    }
}
