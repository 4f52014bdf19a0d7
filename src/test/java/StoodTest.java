/** Promises 34 (ended) and 35 (stood). */
final class StoodTest {
    public static void main(String[] args) {
        stood();
        ended();
        Check.finish();
    }

    private static void stood() {
        // HEIR 0: 1, 3, 3 days; HEIR 1: the last alone, 3 days; HEIR 2: 1, 1, 1
        HalfDone x = Check.with("t:a1b2a3;td1:a1;t:a1a1a1a1a1a1a1a1;ha3b2;ha3;ha9b9");
        Check.due("nothing told: stood(0)", x.stood(0), 15);
        Check.due("nothing told: stood(1)", x.stood(1), 3);
        Check.due("nothing told: stood(2)", x.stood(2), 511);
        Check.due("ended(0, 0, 6)", x.ended(0, 0, 6), 1);
        Check.due("stood(0)", x.stood(0), 2);
        Check.due("of another THING nothing is told", x.stood(2), 511);
        Check.due("ended(0, 2, 2)", x.ended(0, 2, 2), 2);
        Check.due("together", x.stood(0), 2);
        Check.due("ended(0, 1, 3)", x.ended(0, 1, 3), 3);
        Check.due("not together", x.stood(0), 0);
        Check.due("ended(2, 0, 8)", x.ended(2, 0, 8), 4);
        Check.due("none DONE", x.stood(2), 1);
        Check.due("ended(1, 0, 1), FINISHED as it is", x.ended(1, 0, 1), 5);
        Check.due("stood(1)", x.stood(1), 1);
        Check.due("stood(3)", x.stood(3), -1);
        Check.due("stood(-1)", x.stood(-1), -1);
        HalfDone y = Check.with("t:a1b2a3;ha3");
        y.ended(0, 0, 3);
        Check.due("what it can't is not so", y.stood(0), 4);
        y.ended(0, 0, 3);
        Check.due("the same told twice", y.stood(0), 4);
        y.days(40);
        Check.due("ROTTEN", y.stood(0), 4);
        y.teach(0, 1);
        y.ended(0, 0, 9);
        Check.due("by SKILLS as they are", y.stood(0), 0);
        HalfDone z = Check.with("t:a1a1;ha3");
        z.ended(0, 0, 5);
        Check.due("never so many", z.stood(0), 0);
    }

    private static void ended() {
        HalfDone x = Check.with("t:a1;t:a1;ha3");
        Check.due("ended(0, 0, 0)", x.ended(0, 0, 0), -1);
        Check.due("ended(0, 0, 100)", x.ended(0, 0, 100), -1);
        Check.due("ended(0, 0, -1)", x.ended(0, 0, -1), -1);
        Check.due("ended(2, 0, 1)", x.ended(2, 0, 1), -1);
        Check.due("ended(-1, 0, 1)", x.ended(-1, 0, 1), -1);
        Check.due("ended(0, 1, 1)", x.ended(0, 1, 1), -1);
        Check.due("ended(0, -1, 1)", x.ended(0, -1, 1), -1);
        Check.due("ENDINGS", x.count(8), 0);
        for (int k = 1; k <= 12; k++) {
            Check.due("ended", x.ended(k % 2, 0, k == 12 ? 99 : 1), k);
        }
        Check.due("there are twelve", x.ended(0, 0, 1), -1);
        Check.due("ENDINGS", x.count(8), 12);
        Check.due("stood(1)", x.stood(1), 1);
        Check.due("stood(0)", x.stood(0), 0);
        Check.due("they are no ACTS", x.count(9), 0);
    }
}
