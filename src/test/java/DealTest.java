/** Promises 22 (deal), 23 (best), 24 (learn), 25 (begin) and 26 (spite). */
final class DealTest {
    public static void main(String[] args) {
        deals();
        dealsLater();
        best();
        learn();
        begin();
        beginLater();
        spite();
        Check.finish();
    }

    private static void deal(String will, int digits, int values) {
        HalfDone x = Check.with(will);
        Check.due("deal(0) of " + will, x.deal(0), digits);
        Check.due("deal(1) of " + will, x.deal(1), values);
    }

    private static void deals() {
        deal("tr4:a2;tr4:a2;ha3", 0, 20);
        deal("tv5r3:a2;tv7r3:a2;ha3;ha3", 1, 12);
        deal("tv5r3:a2;tv7r3:a2;ha3", 90, 7);
        deal("tv5r3:a2;tv5r3:a2;ha3", 9, 5);
        deal("tr9:a2;tr2:a2;ha3", 0, 20);
        deal("tr2:a2;tr9:a2;tr4:a2;tr6:a2;ha3", 0, 40);
        deal("tr1:a2;h;ha3;ha6", 2, 10);
        deal("tr2:a2;h;ha3;ha6", 1, 10);
        deal("tv0:a1;ha3", 0, 0);
        deal("tv0:b1;ha3", 9, 0);
        deal("tv0r1:a1;tv0r1:a1;tv1r1:a1;ha3", 990, 1);
        deal("td1:a1;tv3:a1;ha3", 90, 3);
        deal("tv9r2:a2;tv9r2:b2;ha3b3;ha3", 10, 18);
        deal("tv9r2:a2;tv9r2:b2;ha3;hb3", 1, 18);
        deal("tv6r6:a6;tv4r3:a3;tv4r6:a3;ha3", 900, 8);
        deal("tv9r6:a6;tv4r3:a3;tv4r6:a3;ha3", 99, 9);
        deal("tv8r6:a6;tv4r3:a3;tv4r6:a3;ha3", 99, 8);
        deal("tr1:a1;tr1:a1;tr1:a1;tr1:a1;tr1:a1;tr1:a1;ha3;ha3;ha3;ha3;ha3;ha3", 12345, 60);
        deal("tv99r1:a9;tv99:a1;tv99:a1;tv99:a1;tv99:a1;tv99:a1;ha9;h;h;h;h;h", 900000, 495);
        deal("t:b1;t:b1;t:b1;t:b1;t:b1;t:b1;ha3", 999999, 0);
        // one TOOL of a, but TOOLS are not asked
        deal("tr1:a1;tr1:a1;ha3;ha3;ga", 1, 20);
        HalfDone x = Check.with("t:a1;ha3");
        Check.due("deal(2)", x.deal(2), -1);
        Check.due("deal(-1)", x.deal(-1), -1);
        Check.due("deal without a WILL", new HalfDone().deal(1), -1);
    }

    private static void dealsLater() {
        HalfDone x = Check.with("tv7r4:a2;tv5r2:a2;ha3");
        Check.due("both", x.deal(0) * 100 + x.deal(1), 12);
        x.give(0, 0);
        x.days(1);
        Check.due("a STEP begun is as not begun, THING 1 is late", x.deal(0), 9);
        Check.due("VALUES", x.deal(1), 7);
        x.days(1);
        Check.due("FINISHED and ROTTEN ones are not asked", x.deal(0), 99);
        Check.due("VALUES", x.deal(1), 0);
        x.undo();
        Check.due("it changes nothing", x.deal(0), 9);
    }

    private static void best() {
        HalfDone x = Check.with("tv1r3:a1;tv2r3:a2;tv4r3:a3;tv8d1:a1;tv16:b1;ha3;h");
        Check.due("best(0, 0)", x.best(0, 0), 0);
        Check.due("best(0, 1)", x.best(0, 1), 1);
        Check.due("best(0, 3)", x.best(0, 3), 3);
        Check.due("best(0, 5)", x.best(0, 5), 4);
        Check.due("best(0, 7)", x.best(0, 7), 4);
        Check.due("best(0, 8): FINISHED", x.best(0, 8), 0);
        Check.due("best(0, 16): it can't", x.best(0, 16), 0);
        Check.due("best(0, 27)", x.best(0, 27), 3);
        Check.due("best(0, 31)", x.best(0, 31), 4);
        Check.due("best(0, 32)", x.best(0, 32), -1);
        Check.due("best(0, -1)", x.best(0, -1), -1);
        Check.due("best(1, 31)", x.best(1, 31), 0);
        Check.due("best(2, 1)", x.best(2, 1), -1);
        Check.due("best(-1, 1)", x.best(-1, 1), -1);
        x.days(1);
        Check.due("best(0, 3) a DAY later", x.best(0, 3), 2);
        Check.due("best(0, 5) a DAY later", x.best(0, 5), 1);
    }

    private static void learn(String will, int which, int values) {
        HalfDone x = Check.with(will);
        String before = Check.dump(x);
        Check.due("learn(0) of " + will, x.learn(0), which);
        Check.due("learn(1) of " + will, x.learn(1), values);
        Check.due("learn changes nothing", Check.dump(x).equals(before), true);
    }

    private static void learn() {
        learn("tv7r2:a2;ha2", 0, 7);
        learn("tv7r2:b2;ha1;hb2", 11, 7);
        learn("tv7r2:b2;tv8r2:c2;hb2;hc2", 12, 8);
        learn("tv7r3:e1;h", 4, 7);
        // HEIR 0 does THING 0 on the only day, so only by HEIR 1 THING 1 is added
        learn("tv7r1:a1;tv8r1:a1;ha3;ha2", 10, 15);
        learn("tv7r2:a1;tv8r2:a2;ha3;ha2", 0, 15);
        learn("tv7r2:e1;h;h", 0, 0);
        learn("t:a1;ha9b9c9d9", 4, 10);
        learn("t:a1;ha9b9c9d9e9;ha9", 11, 10);
        learn("t:a1;ha9b9c9d9e9", -1, -1);
        learn("td1:a1;h", 0, 0);
        HalfDone x = Check.with("t:a1;ha3");
        Check.due("learn(2)", x.learn(2), -1);
        Check.due("learn(-1)", x.learn(-1), -1);
        Check.due("learn without a WILL", new HalfDone().learn(0), -1);
    }

    private static void begin(String will, int n, int digits, int values) {
        HalfDone x = Check.with(will);
        String before = Check.dump(x);
        Check.due("begin(" + n + ", 0) of " + will, x.begin(n, 0), digits);
        Check.due("begin(" + n + ", 1) of " + will, x.begin(n, 1), values);
        Check.due("begin changes nothing", Check.dump(x).equals(before), true);
    }

    private static void begin() {
        begin("tr2:a2a2;ha3", 0, 0, 0);
        begin("tr2:a2a2;ha3", 1, 0, 0);
        begin("tr2:a2a2;ha3", 2, 1, 10);
        begin("tr2:a2a2;ha3", 12, 1, 10);
        begin("tr4:a2a2;ha3", 12, 0, 10);
        begin("tr1:a5;h", 4, 0, 0);
        begin("tr1:a5;h", 5, 1, 10);
        String two = "tv10r1:a1a1;tv9r1:a1a1;ha3";
        begin(two, 0, 0, 0);
        begin(two, 1, 10, 10);
        begin(two, 2, 10, 10);
        begin(two, 3, 12, 19);
        begin(two, 4, 12, 19);
        begin("tv9r1:a9a1;tv1r1:a3;h", 9, 1, 1);
        begin("tv9r1:a9a1;tv1r1:a3;h", 10, 20, 9);
        begin("tv9r1:a9a1;tv1r1:a3;hb9", 12, 20, 9);
        begin("tv9r1:a9a1;tv1r1:a2;hb9", 12, 21, 10);
        begin("tv9d1r1:a9a1;tv1r1:a2;h", 3, 11, 10);
        begin("td1:a1;tv3r1:a2;h", 2, 1, 3);
        begin("tr1:a1a1a1a1a1a1a1a1;hb1", 8, 8, 10);
        // the same VALUES by none of THING 0 and more of THING 1
        begin("tv5r1:a1b2;tv5r1:a1c3;ha3", 5, 2, 5);
        HalfDone x = Check.with("t:a1;ha3");
        Check.due("begin(13, 0)", x.begin(13, 0), -1);
        Check.due("begin(-1, 0)", x.begin(-1, 0), -1);
        Check.due("begin(1, 2)", x.begin(1, 2), -1);
        Check.due("begin(1, -1)", x.begin(1, -1), -1);
        Check.due("begin without a WILL", new HalfDone().begin(1, 1), -1);
    }

    private static void beginLater() {
        HalfDone x = Check.with("tv5r4:a2a2;tv7r1:a1;tv3d1:a1;ha3");
        x.give(0, 0);
        x.days(1);
        // THING 1 is ROTTEN, THING 2 is FINISHED; a STEP begun is as not begun
        Check.due("begin(1, 1)", x.begin(1, 1), 0);
        Check.due("begin(2, 0)", x.begin(2, 0), 100);
        Check.due("begin(2, 1)", x.begin(2, 1), 5);
        HalfDone y = Check.with("tr1:a1;td1:a1;h");
        y.days(1);
        Check.due("nothing to be done", y.begin(12, 0), 0);
        Check.due("nothing to be done", y.begin(12, 1), 0);
    }

    private static void spite(String will, int which, int values) {
        HalfDone x = Check.with(will);
        Check.due("spite(0, 0) of " + will, x.spite(0, 0), which);
        Check.due("spite(0, 1) of " + will, x.spite(0, 1), values);
    }

    private static void spite() {
        spite("tv10r5:a3;tv7r9:a5;ha3", 1, 7);
        spite("tv10r2:a3;tv7r3:a1;ha3", 0, 0);
        spite("tv10r2:a3;tv7r4:a1;ha3", 0, 7);
        spite("tv10:a1;tv7:a1;ha3", 0, 17);
        spite("tv10:a1;tv7:a1b1;ha3", 1, 0);
        spite("tv10:b1;tv7:c1;ha3", 0, 0);
        spite("td1:a1;tv0r1:a9;tv7r4:a1;ha3", 1, 0);
        spite("tv3r9:a9;tv4r3:a1;tv5r3:a2;ha3", 0, 3);
        HalfDone x = Check.with("tr1:a1;td1:a1;ha3;h");
        Check.due("spite(1, 0)", x.spite(1, 0), 0);
        Check.due("spite(2, 0)", x.spite(2, 0), -1);
        Check.due("spite(-1, 0)", x.spite(-1, 0), -1);
        Check.due("spite(0, 2)", x.spite(0, 2), -1);
        Check.due("spite(0, -1)", x.spite(0, -1), -1);
        x.days(1);
        Check.due("spite(0, 0): nothing to be done", x.spite(0, 0), -1);
        Check.due("spite(0, 1): nothing to be done", x.spite(0, 1), -1);
    }
}
