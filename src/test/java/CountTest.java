/** Promise 40 (count) and the constants. */
final class CountTest {
    public static void main(String[] args) {
        HalfDone x = Check.with("tv7d1:a1;tv5r1:a1;tv3:a1;tv2:a1;ha3;h;ga;gb;gb");
        Check.put(x, 1, "y:1");
        Check.put(x, 1, "y:2");
        Check.put(x, 2, "12");
        x.law(1);
        x.give(2, 0);
        x.days(1);
        x.ended(0, 0, 4);
        Check.tape(x, "12345");
        int[] want = {4, 2, 3, 2, 1, 5, 1, 1, 1, 2, 2, 1, 10};
        for (int what = 0; what < want.length; what++) {
            Check.due("count(" + what + ")", x.count(what), want[what]);
        }
        for (int wrong : new int[] {-1, 13, Integer.MAX_VALUE, Integer.MIN_VALUE}) {
            Check.due("count(" + wrong + ")", x.count(wrong), -1000000);
        }
        Check.due("NONE", HalfDone.NONE, -1);
        Check.due("HIDDEN", HalfDone.HIDDEN, -1000000);
        Check.finish();
    }
}
