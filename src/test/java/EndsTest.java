/** Promises 30 (ends), 31 (shortest), 32 (judged), 33 (dearest) and 37 (sign). */
final class EndsTest {
    private static final HalfDone X = new HalfDone();

    public static void main(String[] args) {
        Check.put(X, 2, "12");
        Check.put(X, 2, " 5 ");
        Check.put(X, 2, "123456789012");
        Check.put(X, 1, "y:c=p+1|c=0?1;y:0");
        Check.put(X, 1, "y:1");
        Check.put(X, 1, "y:0-1");
        Check.put(X, 1, "y:c=0?i-1;y:1");
        Check.put(X, 1, "y:i>2?0;y:1");
        Check.put(X, 1, "y:c=9|c=0&p=9?v+k+s+d+n+1");
        ends();
        endsByPlace();
        shortest();
        judged();
        dearest();
        sign();
        refused();
        Check.finish();
    }

    private static void rows(int beginning, int law, int n, int... want) {
        String call = "ends(" + beginning + ", " + law + ", " + n + ", ";
        Check.due(call + "-1)", X.ends(beginning, law, n, -1), want.length);
        for (int i = 0; i < want.length; i++) {
            Check.due(call + i + ")", X.ends(beginning, law, n, i), want[i]);
        }
        Check.due(call + want.length + ")", X.ends(beginning, law, n, want.length), -1);
        Check.due(call + "-2)", X.ends(beginning, law, n, -2), -1);
    }

    private static void ends() {
        rows(0, 0, 1, 10);
        rows(0, 0, 2, 10, 100, 130);
        rows(0, 0, 3, 10, 100, 130, 1000, 1010, 1300, 1340);
        rows(0, 2, 4);
        rows(0, 5, 4, 190, 1990, 19090, 19990);
        Check.due("ends(1, 1, 4, -1)", X.ends(1, 1, 4, -1), 1111);
        Check.due("ends(1, 1, 4, 0)", X.ends(1, 1, 4, 0), 10);
        Check.due("ends(1, 1, 4, 1)", X.ends(1, 1, 4, 1), 100);
        Check.due("ends(1, 1, 4, 10)", X.ends(1, 1, 4, 10), 190);
        Check.due("ends(1, 1, 4, 11)", X.ends(1, 1, 4, 11), 1000);
        Check.due("ends(1, 1, 4, 1110)", X.ends(1, 1, 4, 1110), 19990);
        Check.due("ends(1, 1, 4, 1111)", X.ends(1, 1, 4, 1111), -1);
    }

    private static void endsByPlace() {
        // behind 5 the first sign has number 1
        rows(1, 3, 1);
        rows(1, 3, 2, 110, 120, 130, 140, 150, 160, 170, 180, 190);
        rows(0, 4, 4, 10);
        Check.due("behind 5, two signs", X.ends(1, 4, 4, -1), 11);
        rows(2, 4, 4);
        Check.due("behind twelve", X.ends(2, 3, 1, -1), 1);
    }

    private static void shortest() {
        Check.due("shortest(0, 0, 4)", X.shortest(0, 0, 4), 1);
        Check.due("shortest(1, 3, 1)", X.shortest(1, 3, 1), -1);
        Check.due("shortest(1, 3, 2)", X.shortest(1, 3, 2), 2);
        Check.due("shortest(1, 3, 4)", X.shortest(1, 3, 4), 2);
        Check.due("shortest(0, 2, 4)", X.shortest(0, 2, 4), -1);
        Check.due("shortest(2, 5, 4)", X.shortest(2, 5, 4), 2);
        HalfDone x = new HalfDone();
        Check.put(x, 2, "1");
        Check.put(x, 1, "y:c=p+1|c=0&p=4?1");
        Check.due("four signs", x.shortest(0, 0, 4), 4);
        Check.due("2340", x.ends(0, 0, 4, 0), 12340);
        Check.due("three are too few", x.shortest(0, 0, 3), -1);
    }

    private static void judged() {
        Check.due("judged(0, 1, 0)", X.judged(0, 1, 0), 1 + 2 + 8 + 16);
        Check.due("judged(0, 1, 3)", X.judged(0, 1, 3), 0);
        Check.due("judged(0, 2, 0)", X.judged(0, 2, 0), 1 + 2 + 8);
        Check.due("judged(0, 2, 30)", X.judged(0, 2, 30), 1 + 2 + 8);
        Check.due("judged(0, 2, 90)", X.judged(0, 2, 90), 2 + 8 + 32);
        Check.due("judged(0, 2, 99)", X.judged(0, 2, 99), 0);
        Check.due("judged(1, 1, 0)", X.judged(1, 1, 0), 1 + 2 + 16);
        Check.due("judged(0, 4, 9990)", X.judged(0, 4, 9990), 2 + 8 + 32);
        HalfDone x = new HalfDone();
        Check.put(x, 2, "1");
        Check.due("no LAWS", x.judged(0, 1, 0), 0);
    }

    private static void dearest() {
        Check.due("dearest(0, 1, 0)", X.dearest(0, 1, 0), 10);
        Check.due("dearest(0, 1, 1)", X.dearest(0, 1, 1), 4);
        Check.due("dearest(0, 4, 0)", X.dearest(0, 4, 0), 10);
        Check.due("dearest(1, 1, 1)", X.dearest(1, 1, 1), 3);
        Check.due("dearest(1, 4, 0)", X.dearest(1, 4, 0), 160);
        Check.due("dearest(1, 4, 1)", X.dearest(1, 4, 1), 4);
        HalfDone x = new HalfDone();
        Check.put(x, 2, "1");
        Check.due("no LAWS", x.dearest(0, 4, 0), -1);
        Check.due("no LAWS", x.dearest(0, 4, 1), -1);
        Check.put(x, 1, "y:p=7|c=7|i=1?1");
        Check.put(x, 1, "y:c<8&p<9?1");
        Check.due("one sign fits both", x.dearest(0, 4, 0), 10);
        Check.put(x, 1, "y:i=1?c>6;y:1".replace("c>6", "c/7"));
        Check.put(x, 1, "y:c=0&i=1?0;y:1");
        Check.due("170 fits all", x.dearest(0, 4, 0), 170);
        Check.due("how many", x.dearest(0, 4, 1), 4);
        Check.due("by one sign", x.dearest(0, 1, 1), 2);
        HalfDone y = new HalfDone();
        Check.put(y, 2, "1");
        Check.put(y, 1, "y:i=1&c=2|i=2&p=2&c=0?1");
        Check.due("one LAW is enough", y.dearest(0, 4, 0), 120);
        Check.due("how many", y.dearest(0, 4, 1), 1);
        Check.due("none", y.dearest(0, 1, 1), -1);
    }

    private static void sign() {
        Check.due("sign(0, -1)", X.sign(0, -1), 2);
        Check.due("sign(0, 0)", X.sign(0, 0), 1);
        Check.due("sign(0, 1)", X.sign(0, 1), 2);
        Check.due("sign(0, 2)", X.sign(0, 2), -1);
        Check.due("sign(1, -1)", X.sign(1, -1), 1);
        Check.due("sign(1, 0)", X.sign(1, 0), 5);
        Check.due("sign(2, -1)", X.sign(2, -1), 12);
        Check.due("sign(2, 9)", X.sign(2, 9), 0);
        Check.due("sign(2, 11)", X.sign(2, 11), 2);
        Check.due("sign(2, 12)", X.sign(2, 12), -1);
        Check.due("sign(0, -2)", X.sign(0, -2), -1);
        Check.due("sign(3, -1)", X.sign(3, -1), -1);
        Check.due("sign(-1, -1)", X.sign(-1, -1), -1);
    }

    private static void refused() {
        for (int wrong : new int[] {-1, 3, 4, Integer.MAX_VALUE, Integer.MIN_VALUE}) {
            Check.due("ends of BEGINNING " + wrong, X.ends(wrong, 0, 1, -1), -1);
            Check.due("shortest of BEGINNING " + wrong, X.shortest(wrong, 0, 1), -1);
            Check.due("judged of BEGINNING " + wrong, X.judged(wrong, 1, 0), -1);
            Check.due("dearest of BEGINNING " + wrong, X.dearest(wrong, 1, 0), -1);
        }
        for (int wrong : new int[] {-1, 6, Integer.MAX_VALUE, Integer.MIN_VALUE}) {
            Check.due("ends of LAW " + wrong, X.ends(0, wrong, 1, -1), -1);
            Check.due("shortest of LAW " + wrong, X.shortest(0, wrong, 1), -1);
        }
        for (int wrong : new int[] {-1, 0, 5, Integer.MAX_VALUE, Integer.MIN_VALUE}) {
            Check.due("ends of up to " + wrong, X.ends(0, 0, wrong, -1), -1);
            Check.due("shortest of up to " + wrong, X.shortest(0, 0, wrong), -1);
            Check.due("judged of " + wrong + " signs", X.judged(0, wrong, 0), -1);
            Check.due("dearest of up to " + wrong, X.dearest(0, wrong, 0), -1);
        }
        Check.due("judged(0, 1, 10)", X.judged(0, 1, 10), -1);
        Check.due("judged(0, 4, 10000)", X.judged(0, 4, 10000), -1);
        Check.due("judged(0, 1, -1)", X.judged(0, 1, -1), -1);
        Check.due("dearest(0, 1, 2)", X.dearest(0, 1, 2), -1);
        Check.due("dearest(0, 1, -1)", X.dearest(0, 1, -1), -1);
    }
}
