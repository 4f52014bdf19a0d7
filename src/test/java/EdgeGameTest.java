/** Edges of promises 28 (rests) and 29 (gains). */
final class EdgeGameTest {
    private static final int[] FAR = {-2, Integer.MIN_VALUE, Integer.MAX_VALUE};

    public static void main(String[] args) {
        restsRefused();
        heirs();
        rests();
        quickest();
        more();
        gainsRefused();
        gains();
        Check.finish();
    }

    private static void rows(String what, HalfDone x, int... want) {
        Edge.due("rests(-1): " + what, x.rests(-1), want.length);
        for (int i = 0; i < want.length; i++) {
            Edge.due("rests(" + i + "): " + what, x.rests(i), want[i]);
        }
        Edge.due("rests(" + want.length + "): " + what, x.rests(want.length), -1);
        Edge.due("rests(-2): " + what, x.rests(-2), -1);
    }

    private static HalfDone five() {
        HalfDone x = Check.with("tv8:a1;tv7:a1;ha3;h;h;h;h");
        x.give(0, 0);
        return x;
    }

    private static void restsRefused() {
        Edge.says("rests: NONE: no such one, no WILL.");
        for (int i = -2; i <= 1; i++) {
            int at = i;
            Edge.refused("rests(" + at + ") without a WILL", Edge::none, o -> o.rests(at), -1);
        }
        for (int far : FAR) {
            Edge.refused("rests(" + far + ")", Edge::amid, o -> o.rests(far), -1);
            Edge.refused("rests(" + far + ") without a WILL", Edge::none, o -> o.rests(far), -1);
        }
        Edge.says("rests: HIDDEN: more than four HEIRS (whatever i is).");
        for (int i : new int[] {-2, -1, 0, 1, 9999, Integer.MIN_VALUE, Integer.MAX_VALUE}) {
            Edge.refused("rests(" + i + ") of five HEIRS", EdgeGameTest::five, o -> o.rests(i), -1000000);
            Edge.refused("rests(" + i + ") of six HEIRS", Edge::full, o -> o.rests(i), -1000000);
        }
    }

    private static void heirs() {
        Edge.says("GAMES (four HEIRS at most)");
        String things = "tv4:a1;tv3:a1;tv2:a1;tv1:a1";
        rows("one", Check.with(things + ";ha3"), 0);
        rows("two", Check.with(things + ";ha3;ha3"), 1);
        rows("three", Check.with(things + ";ha3;ha3;ha3"), 12);
        rows("four", Check.with(things + ";ha3;ha3;ha3;ha3"), 123);
        Edge.due("five", Check.with(things + ";ha3;ha3;ha3;ha3;ha3").rests(-1), -1000000);
        HalfDone x = Check.with("tv4:a1;h;h;h;h");
        Edge.due("none of four can: all rows", x.rests(-1), 16);
        Edge.due("the first", x.rests(0), 0);
        Edge.due("the second", x.rests(1), 9);
        Edge.due("the last", x.rests(15), 9999);
        Edge.due("one more", x.rests(16), -1);
        HalfDone six = Check.with("t:b1;t:b1;t:b1;t:b1;t:b1;t:b1;h;h;h;h");
        Edge.due("seven choices of each of four", six.rests(-1), 2401);
        Edge.due("the last but one", six.rests(2399), 9995);
        Edge.due("the last", six.rests(2400), 9999);
        Edge.due("one more", six.rests(2401), -1);
    }

    private static void rests() {
        Edge.says("RESTS: rows of what they go for (digits, HEIR 0 the highest, 9 none): how many, the i-th (rising)");
        rows("it can't: as good as none", Check.with("tv8:b1;ha3"), 0, 9);
        rows("the last of six", Check.with("t:b1;t:b1;t:b1;t:b1;t:b1;tv9:a1;ha3"), 5);
        rows("FINISHED ones nobody goes for", Check.with("td1:a1;tv8:a1;ha3"), 1);
        rows("nothing to be done", Check.with("td1:a1;h;h;h"), 999);
        HalfDone x = Check.with("tr1:a9;tv8:a1;ha3");
        rows("to be done, but late", x, 1);
        x.days(1);
        rows("ROTTEN ones nobody goes for", x, 1);
        rows("VALUE 0 is as good as none", Check.with("tv0:a1;ha3"), 0, 9);
        rows("VALUE 1 is more", Check.with("tv1:a1;ha3"), 0);
    }

    private static void quickest() {
        Edge.says("of those who go for one it has it who is quickest ALONE, IN TIME (of several the lowest)");
        HalfDone x = Check.with("tv8:a4;ha4;ha5;ha6;ha6");
        int[] want = {0, 0, 8, 0};
        for (int heir = 0; heir < 4; heir++) {
            Edge.due("three, three, two, two days: gains(0, " + heir + ")", x.gains(0, heir), want[heir]);
        }
        Edge.due("gains(99, 0): HEIRS 0 and 1", x.gains(99, 0), 8);
        Edge.due("gains(99, 1)", x.gains(99, 1), 0);
        Edge.due("gains(9900, 2): HEIRS 2 and 3", x.gains(9900, 2), 8);
        Edge.due("gains(9900, 3)", x.gains(9900, 3), 0);
        Edge.due("gains(9990, 3): HEIR 3 alone", x.gains(9990, 3), 8);
        HalfDone y = Check.with("tv8r2:a4;ha5;ha6");
        Edge.due("three days are late", y.gains(9, 0), 0);
        Edge.due("two are IN TIME", y.gains(90, 1), 8);
        y.days(1);
        Edge.due("three in all are late", y.gains(90, 1), 0);
        HalfDone z = Check.with("tv8:a1;h;ha3");
        Edge.due("who can't does not have it", z.gains(0, 0), 0);
        Edge.due("the other has it", z.gains(0, 1), 8);
    }

    private static void more() {
        Edge.says("by which nobody has more by another choice alone");
        rows("as much is not more", Check.with("tv8:a1;tv8:a1;ha3"), 0, 1);
        rows("one more is", Check.with("tv8:a1;tv9:a1;ha3"), 1);
        rows("who loses has as much of nothing", Check.with("tv8:a1;ha3;ha3"), 0, 9);
        HalfDone x = Check.with("tv8:a1;ha3");
        Check.put(x, 1, "y:0-1");
        Check.put(x, 1, "y:0");
        Check.put(x, 1, "y:1");
        x.law(0);
        rows("worth less than none", x, 9);
        x.law(1);
        rows("worth as much as none", x, 0, 9);
        x.law(2);
        rows("worth more than none", x, 0);
    }

    private static void gainsRefused() {
        Edge.says("gains: HIDDEN: no such ones, more than four HEIRS.");
        for (int row : new int[] {-1, 0, 9, 99}) {
            Edge.refused("gains(" + row + ", 0) without a WILL", Edge::none, o -> o.gains(row, 0), -1000000);
            Edge.refused("gains(" + row + ", 0) of five HEIRS", EdgeGameTest::five, o -> o.gains(row, 0), -1000000);
            Edge.refused("gains(" + row + ", 0) of six HEIRS", Edge::full, o -> o.gains(row, 0), -1000000);
        }
        Edge.refused("gains(99999, 4) of five HEIRS", EdgeGameTest::five, o -> o.gains(99999, 4), -1000000);
        for (int far : new int[] {-1, 2, 4, Integer.MIN_VALUE, Integer.MAX_VALUE}) {
            Edge.refused("gains(99, " + far + ") of two HEIRS", Edge::amid, o -> o.gains(99, far), -1000000);
        }
        for (int far : new int[] {-99, -9, -1, 100, 999, 1000, 10000, Integer.MIN_VALUE, Integer.MAX_VALUE}) {
            Edge.refused("gains(" + far + ", 0) of two HEIRS", Edge::amid, o -> o.gains(far, 0), -1000000);
        }
        Edge.says("gains: HIDDEN: (a THING that is FINISHED or ROTTEN, not told: none of these)");
        // 0 and 1 are to be done, 2 is FINISHED, 3 is ROTTEN, 4 .. 8 are not told, 9 is none
        for (int other = 2; other <= 8; other++) {
            int of = other;
            for (int heir = 0; heir <= 1; heir++) {
                int h = heir;
                Edge.refused("gains(" + of + "9, " + h + ")", Edge::amid, o -> o.gains(of * 10 + 9, h), -1000000);
                Edge.refused("gains(9" + of + ", " + h + ")", Edge::amid, o -> o.gains(90 + of, h), -1000000);
                Edge.refused("gains(0" + of + ", " + h + ")", Edge::amid, o -> o.gains(of, h), -1000000);
            }
        }
    }

    private static void gains() {
        Edge.says("What an HEIR has by a row of what they go for.");
        HalfDone one = Check.with("tv8:a1;ha3");
        int[] want = {8, -1000000, -1000000, -1000000, -1000000, -1000000, -1000000, -1000000, -1000000, 0, -1000000};
        for (int row = 0; row <= 10; row++) {
            Edge.due("gains(" + row + ", 0) of one THING, one HEIR", one.gains(row, 0), want[row]);
        }
        HalfDone six = Check.with("tv1:a1;tv2:a1;tv3:a1;tv4:a1;tv5:a1;tv6:a1;ha3;ha3;ha3;ha3");
        Edge.due("gains(5, 0): HEIR 3 alone goes for THING 5", six.gains(5, 0), 1);
        Edge.due("gains(5, 3)", six.gains(5, 3), 6);
        Edge.due("gains(5, 1): HEIR 0 has THING 0", six.gains(5, 1), 0);
        Edge.due("gains(5432, 0)", six.gains(5432, 0), 6);
        Edge.due("gains(5432, 3)", six.gains(5432, 3), 3);
        Edge.due("gains(5555, 3)", six.gains(5555, 3), 0);
        Edge.due("gains(9999, 0)", six.gains(9999, 0), 0);
        Edge.due("gains(9999, 3)", six.gains(9999, 3), 0);
        Edge.due("gains(9995, 3)", six.gains(9995, 3), 6);
        Edge.due("gains(9995, 4)", six.gains(9995, 4), -1000000);
        Edge.due("gains(9996, 3)", six.gains(9996, 3), -1000000);
        Edge.due("gains(10000, 3)", six.gains(10000, 3), -1000000);
        Edge.due("gains(99999, 3)", six.gains(99999, 3), -1000000);
        HalfDone y = Check.with("tv8r1:a2;tv8:a1;ha3;h");
        Edge.due("late: others 0", y.gains(9, 0), 0);
        Edge.due("it can't: others 0", y.gains(91, 1), 0);
        Check.put(y, 1, "y:0-5");
        y.law(0);
        Edge.due("who has it has its WISH for it", y.gains(19, 0), -5);
        Edge.due("others 0", y.gains(19, 1), 0);
        Edge.due("late: 0, not its WISH", y.gains(9, 0), 0);
        HalfDone z = Check.with("tv10:a1;tv20:a1;tv30:a1;tv40:a1;ha3k1;ha3k2;ha3k3;ha3k4");
        Check.put(z, 1, "y:v*10+k");
        z.law(0);
        for (int heir = 0; heir < 4; heir++) {
            Edge.due("its own WISH: gains(123, " + heir + ")", z.gains(123, heir), 100 * (heir + 1) + heir + 1);
            Edge.due("its own WISH: gains(3210, " + heir + ")", z.gains(3210, heir), 100 * (4 - heir) + heir + 1);
        }
    }
}
