/** Promises 6 (thing), 7 (step), 8 (heir) and 9 (tools). */
final class ToldTest {
    private static final HalfDone X = Check.with("ga;tv20r10d1:a2b3e9;h;tr4v5:c1;ha3b4c5d6e7k8;ge;td2:a1a1;ga");

    public static void main(String[] args) {
        things();
        steps();
        heirs();
        tools();
        Check.finish();
    }

    private static void row(int thing, int... want) {
        for (int what = 0; what <= 8; what++) {
            Check.due("thing(" + thing + ", " + what + ")", Check.thing(X, thing, what), want[what]);
        }
    }

    private static void things() {
        row(0, 20, 10, 1, 3, -1, 0, 0, -1, -1);
        row(1, 5, 4, 0, 1, -1, 0, 0, -1, -1);
        row(2, 10, 30, 2, 2, -1, 1, 0, 0, -1);
        for (int wrong : new int[] {-1, 3, 6, Integer.MAX_VALUE, Integer.MIN_VALUE}) {
            Check.due("thing(" + wrong + ", 0)", Check.thing(X, wrong, 0), Check.THROWN);
        }
        for (int wrong : new int[] {-1, 9, Integer.MAX_VALUE, Integer.MIN_VALUE}) {
            Check.due("thing(0, " + wrong + ")", Check.thing(X, 0, wrong), Check.THROWN);
        }
        HalfDone x = Check.with("tr3:a2a1;tr1:a9;ha2;ha2");
        x.give(0, 1);
        x.give(1, 0);
        x.days(1);
        Check.due("who HOLDS it", Check.thing(x, 0, 4), 1);
        Check.due("its next STEP has got", Check.thing(x, 0, 6), 2);
        Check.due("one that is ROTTEN", Check.thing(x, 1, 5), 2);
        Check.due("has got", Check.thing(x, 1, 6), 2);
        Check.due("is held still", Check.thing(x, 1, 4), 0);
        Check.due("was never FINISHED", Check.thing(x, 1, 7), -1);
        Check.due("by nobody", Check.thing(x, 1, 8), -1);
    }

    private static void steps() {
        Check.due("step(0, 0, 0)", X.step(0, 0, 0), 0);
        Check.due("step(0, 0, 1)", X.step(0, 0, 1), 2);
        Check.due("step(0, 2, 0)", X.step(0, 2, 0), 4);
        Check.due("step(0, 2, 1)", X.step(0, 2, 1), 9);
        Check.due("step(1, 0, 0)", X.step(1, 0, 0), 2);
        Check.due("step(2, 1, 1)", X.step(2, 1, 1), 1);
        Check.due("step(0, 3, 0)", X.step(0, 3, 0), -1);
        Check.due("step(1, 1, 0)", X.step(1, 1, 0), -1);
        Check.due("step(0, -1, 0)", X.step(0, -1, 0), -1);
        Check.due("step(3, 0, 0)", X.step(3, 0, 0), -1);
        Check.due("step(-1, 0, 0)", X.step(-1, 0, 0), -1);
        Check.due("step(0, 0, 2)", X.step(0, 0, 2), -1);
        Check.due("step(0, 0, -1)", X.step(0, 0, -1), -1);
        Check.due("step of the greatest", X.step(Integer.MAX_VALUE, Integer.MAX_VALUE, 0), -1);
    }

    private static void heirs() {
        for (int what = 0; what <= 6; what++) {
            Check.due("heir(0, " + what + ")", X.heir(0, what), 0);
            Check.due("heir(1, " + what + ")", X.heir(1, what), what == 6 ? 0 : 3 + what);
        }
        Check.due("heir(2, 0)", X.heir(2, 0), -1);
        Check.due("heir(-1, 0)", X.heir(-1, 0), -1);
        Check.due("heir(0, 7)", X.heir(0, 7), -1);
        Check.due("heir(0, -1)", X.heir(0, -1), -1);
        HalfDone x = Check.with("t:a1;t:a1;t:a1;h;h");
        x.give(0, 1);
        x.give(2, 1);
        x.give(1, 0);
        Check.due("what HEIR 1 HOLDS", x.heir(1, 6), 5);
        Check.due("what HEIR 0 HOLDS", x.heir(0, 6), 2);
    }

    private static void tools() {
        int[] want = {2, 0, 0, 0, 1};
        for (int trade = 0; trade < 5; trade++) {
            Check.due("tools(" + trade + ")", X.tools(trade), want[trade]);
        }
        Check.due("tools(5)", X.tools(5), -1);
        Check.due("tools(-1)", X.tools(-1), -1);
        Check.due("tools without a WILL", new HalfDone().tools(0), -1);
    }
}
