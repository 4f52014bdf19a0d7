/** Promises 28 (rests) and 29 (gains). */
final class GameTest {
    public static void main(String[] args) {
        rests();
        restsByLaws();
        bounds();
        gains();
        Check.finish();
    }

    private static void rows(String what, HalfDone x, int... want) {
        Check.due("rests(-1): " + what, x.rests(-1), want.length);
        for (int i = 0; i < want.length; i++) {
            Check.due("rests(" + i + "): " + what, x.rests(i), want[i]);
        }
        Check.due("rests(" + want.length + "): " + what, x.rests(want.length), -1);
    }

    private static void rests() {
        rows("the quicker by number", Check.with("tv10:a1;tv8:a1;ha3;ha3"), 1);
        rows("the quicker by days", Check.with("tv10:a2;tv8:a2;ha3;ha6"), 10);
        rows("the same worth", Check.with("tv8:a1;tv8:a1;ha3;ha3"), 1, 10);
        rows("one THING: who loses has none", Check.with("tv8:a1;ha3;ha3"), 0, 9);
        rows("one can't", Check.with("tv8:a1;tv7:a1;ha3;h"), 0, 1, 9);
        rows("nobody can", Check.with("tv8:b1;h"), 0, 9);
        rows("late", Check.with("tv8r1:a2;tv8r2:a2;ha3"), 1);
        rows("no worth", Check.with("tv0:a1;ha3"), 0, 9);
        rows("FINISHED ones are no choice", Check.with("td1:a1;tv8:a1;h"), 1, 9);
        rows("nothing to be done", Check.with("td1:a1;h;h"), 99);
        rows("four", Check.with("tv4:a1;tv3:a1;tv2:a1;tv1:a1;ha3;ha3;ha3;ha3"), 123);
        HalfDone x = Check.with("tr1:a1;tv8:a1;ha3;ha3");
        x.days(1);
        rows("ROTTEN ones are no choice", x, 11, 19);
    }

    private static void restsByLaws() {
        HalfDone x = Check.with("tv10:a1;tv8:a1;ha3k1;ha3k2");
        Check.put(x, 1, "y:0-1");
        Check.put(x, 1, "y:k=1?8-v;y:v");
        x.law(0);
        rows("worth less than none", x, 99);
        x.law(1);
        // HEIR 0 loses by THING 0 and has nothing of THING 1; HEIR 1 gets what HEIR 0 does not go for
        rows("each by its own", x, 10, 90);
        x.law(-1);
        rows("by VALUE", x, 1);
        HalfDone y = Check.with("tv10:a1;ha3;h");
        Check.put(y, 1, "y:0-1");
        y.law(0);
        rows("who can't has nothing", y, 90, 99);
    }

    private static void bounds() {
        HalfDone x = Check.with("t:a1;ha3");
        Check.due("rests(-2)", x.rests(-2), -1);
        Check.due("rests(1)", x.rests(1), -1);
        Check.due("rests(2147483647)", x.rests(Integer.MAX_VALUE), -1);
        HalfDone y = Check.with("t:a1;h;h;h;h;h");
        for (int i = -2; i <= 1; i++) {
            Check.due("rests(" + i + ") of five", y.rests(i), -1000000);
        }
        HalfDone z = Check.with("tv8:a1;h;h;ha3;h");
        Check.due("gains(9909, 2) of four", z.gains(9909, 2), 8);
        Check.due("gains(9990, 2) of four", z.gains(9990, 2), 0);
        Check.due("gains(99999, 0) of five", y.gains(99999, 0), -1000000);
        Check.due("gains(0, 0) of five", y.gains(0, 0), -1000000);
        Check.due("rests(0) without a WILL", new HalfDone().rests(0), -1);
    }

    private static void gains() {
        HalfDone x = Check.with("tv10r3:a2;tv8r1:a1;td1:a1;tr1:a2;ha3;ha6;ha9");
        Check.due("all go for 0: 2, 1, 1 days", x.gains(0, 0), 0);
        Check.due("all go for 0", x.gains(0, 1), 10);
        Check.due("all go for 0", x.gains(0, 2), 0);
        Check.due("gains(99, 0)", x.gains(99, 0), 10);
        Check.due("gains(99, 1)", x.gains(99, 1), 0);
        Check.due("gains(910, 2)", x.gains(910, 2), 10);
        Check.due("gains(910, 1)", x.gains(910, 1), 8);
        Check.due("gains(910, 0)", x.gains(910, 0), 0);
        Check.due("gains(399, 0): late", x.gains(399, 0), 0);
        Check.due("gains(939, 1): in time", x.gains(939, 1), 10);
        Check.due("gains(999, 1)", x.gains(999, 1), 0);
        Check.due("gains(299, 0): FINISHED", x.gains(299, 0), -1000000);
        Check.due("gains(499, 0): not told", x.gains(499, 0), -1000000);
        Check.due("gains(994, 0): not told, of another", x.gains(994, 0), -1000000);
        Check.due("gains(899, 0): not told", x.gains(899, 0), -1000000);
        Check.due("gains(1000, 0): a digit too many", x.gains(1000, 0), -1000000);
        Check.due("gains(9999, 0): a digit too many", x.gains(9999, 0), -1000000);
        Check.due("gains(-1, 0)", x.gains(-1, 0), -1000000);
        Check.due("gains(2147483647, 0)", x.gains(Integer.MAX_VALUE, 0), -1000000);
        Check.due("gains(999, 3)", x.gains(999, 3), -1000000);
        Check.due("gains(999, -1)", x.gains(999, -1), -1000000);
        Check.put(x, 1, "y:0-v");
        x.law(0);
        Check.due("gains(99, 0) by a LAW", x.gains(99, 0), -10);
        x.days(1);
        Check.due("gains(939, 0): ROTTEN", x.gains(939, 0), -1000000);
        Check.due("gains(99, 0): in time still", x.gains(99, 0), -10);
        x.days(1);
        Check.due("gains(99, 0): late", x.gains(99, 0), 0);
        Check.due("gains(9, 1)", x.gains(9, 1), -10);
        Check.due("gains without a WILL", new HalfDone().gains(0, 0), -1000000);
    }
}
