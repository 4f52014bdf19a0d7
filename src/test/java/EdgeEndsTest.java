/** Edges of promises 30 (ends), 31 (shortest), 32 (judged) and 33 (dearest). */
final class EdgeEndsTest {
    public static void main(String[] args) {
        refused();
        refusedOfJudging();
        counted();
        aboveZero();
        letters();
        lastIsZero();
        shortest();
        judged();
        dearest();
        Check.finish();
    }

    private static HalfDone with(String beginning, String... laws) {
        HalfDone x = new HalfDone();
        Check.put(x, 2, beginning);
        for (String law : laws) {
            Check.put(x, 1, law);
        }
        return x;
    }

    private static void rows(HalfDone x, int law, int n, int... want) {
        Edge.due("ends(0, " + law + ", " + n + ", -1)", x.ends(0, law, n, -1), want.length);
        for (int i = 0; i < want.length; i++) {
            Edge.due("ends(0, " + law + ", " + n + ", " + i + ")", x.ends(0, law, n, i), want[i]);
        }
        Edge.due("ends(0, " + law + ", " + n + ", " + want.length + ")", x.ends(0, law, n, want.length), -1);
    }

    private static void refused() {
        Edge.says("ends: NONE: no such ones, no such i, out of bounds; shortest: NONE: none, no such ones, out of bounds.");
        for (int far : new int[] {-1, 1, 4, Integer.MIN_VALUE, Integer.MAX_VALUE}) {
            Edge.refused("ends of BEGINNING " + far, Edge::none, o -> o.ends(far, 0, 1, -1), -1);
            Edge.refused("shortest of BEGINNING " + far, Edge::none, o -> o.shortest(far, 0, 1), -1);
        }
        for (int far : new int[] {-1, 2, 6, Integer.MIN_VALUE, Integer.MAX_VALUE}) {
            Edge.refused("ends of LAW " + far, Edge::amid, o -> o.ends(0, far, 1, -1), -1);
            Edge.refused("shortest of LAW " + far, Edge::amid, o -> o.shortest(0, far, 1), -1);
        }
        for (int far : new int[] {-1, 0, 5, Integer.MIN_VALUE, Integer.MAX_VALUE}) {
            for (int i = -1; i <= 0; i++) {
                int at = i;
                Edge.refused("ends of up to " + far, Edge::none, o -> o.ends(0, 0, far, at), -1);
            }
            Edge.refused("shortest of up to " + far, Edge::none, o -> o.shortest(0, 0, far), -1);
        }
        for (int far : new int[] {-2, 1, 2, Integer.MIN_VALUE, Integer.MAX_VALUE}) {
            Edge.refused("the i-th, " + far + " of one", Edge::none, o -> o.ends(0, 0, 1, far), -1);
        }
        HalfDone x = new HalfDone();
        Edge.due("ends of none", x.ends(0, 0, 1, -1), -1);
        Check.put(x, 2, "1");
        Edge.due("ends without a LAW", x.ends(0, 0, 1, -1), -1);
        Edge.due("shortest without a LAW", x.shortest(0, 0, 1), -1);
        Check.put(x, 1, "y:1");
        Edge.due("ends without a WILL", x.ends(0, 0, 1, -1), 1);
        HalfDone y = Edge.full();
        Edge.due("the last BEGINNING, the last LAW", y.ends(3, 5, 4, 0), 10);
        Edge.due("one more BEGINNING", y.ends(4, 5, 4, 0), -1);
        Edge.due("one more LAW", y.ends(3, 6, 4, 0), -1);
    }

    private static void refusedOfJudging() {
        Edge.says("judged: NONE: no such ones, out of bounds.");
        for (int far : new int[] {-1, 1, 4, Integer.MIN_VALUE, Integer.MAX_VALUE}) {
            Edge.refused("judged of BEGINNING " + far, Edge::none, o -> o.judged(far, 1, 0), -1);
        }
        for (int far : new int[] {-1, 0, 5, Integer.MIN_VALUE, Integer.MAX_VALUE}) {
            Edge.refused("judged of " + far + " signs", Edge::none, o -> o.judged(0, far, 0), -1);
        }
        int[] tens = {1, 10, 100, 1000, 10000};
        for (int signs = 1; signs <= 4; signs++) {
            int many = signs;
            for (int digits : new int[] {-1, tens[many], tens[many] * 10, Integer.MIN_VALUE, Integer.MAX_VALUE}) {
                Edge.refused("judged(0, " + many + ", " + digits + ")", Edge::none, o -> o.judged(0, many, digits), -1);
            }
            HalfDone x = with("1", "y:1");
            Edge.due("judged(0, " + many + ", 0)", x.judged(0, many, 0), 1);
            Edge.due("the greatest", x.judged(0, many, tens[many] - 1), 0);
            Edge.due("the greatest that ends", x.judged(0, many, tens[many] - 10), 1);
        }
        Edge.says("dearest: NONE: none, no such BEGINNING, out of bounds, no such what.");
        for (int far : new int[] {-1, 1, 4, Integer.MIN_VALUE, Integer.MAX_VALUE}) {
            Edge.refused("dearest of BEGINNING " + far, Edge::none, o -> o.dearest(far, 1, 0), -1);
        }
        for (int far : new int[] {-1, 0, 5, Integer.MIN_VALUE, Integer.MAX_VALUE}) {
            Edge.refused("dearest of up to " + far, Edge::none, o -> o.dearest(0, far, 0), -1);
        }
        for (int far : new int[] {-1, 2, Integer.MIN_VALUE, Integer.MAX_VALUE}) {
            Edge.refused("dearest(0, 1, " + far + ")", Edge::none, o -> o.dearest(0, 1, far), -1);
        }
        for (int what = 0; what <= 1; what++) {
            int w = what;
            Edge.refused("none fits", () -> with("1", "y:0", "y:c-9"), o -> o.dearest(0, 4, w), -1);
            Edge.refused("no LAWS", () -> with("1"), o -> o.dearest(0, 4, w), -1);
            Edge.refused("no BEGINNING", HalfDone::new, o -> o.dearest(0, 4, w), -1);
        }
    }

    private static void counted() {
        Edge.says("ENDS: a row of up to n (1 .. 4) signs: how many, the i-th (its digits with a 1 ahead)");
        HalfDone x = with("7", "y:1");
        int[] many = {0, 1, 11, 111, 1111};
        int[] last = {0, 10, 190, 1990, 19990};
        for (int n = 1; n <= 4; n++) {
            Edge.due("ends(0, 0, " + n + ", -1)", x.ends(0, 0, n, -1), many[n]);
            Edge.due("the first", x.ends(0, 0, n, 0), 10);
            Edge.due("the last", x.ends(0, 0, n, many[n] - 1), last[n]);
            Edge.due("one more", x.ends(0, 0, n, many[n]), -1);
            Edge.due("the i-th for i -2", x.ends(0, 0, n, -2), -1);
        }
        Edge.says("(by length, then as digits)");
        Edge.due("the second", x.ends(0, 0, 4, 1), 100);
        Edge.due("the third", x.ends(0, 0, 4, 2), 110);
        Edge.due("the first of three signs", x.ends(0, 0, 4, 11), 1000);
        Edge.due("the first of four signs", x.ends(0, 0, 4, 111), 10000);
        Edge.due("the second of four signs", x.ends(0, 0, 4, 112), 10010);
    }

    private static void aboveZero() {
        Edge.says("if WORTH is above 0 for each sign of it");
        rows(with("7", "y:0-1"), 0, 4);
        rows(with("7", "y:0"), 0, 4);
        rows(with("7", "y:1"), 0, 1, 10);
        rows(with("7", "y:1000*1000"), 0, 1, 10);
        rows(with("7", "y:c=0?1"), 0, 2, 10, 100);
        rows(with("7", "y:c=0?1;y:c-8"), 0, 2, 10, 100, 190);
        rows(with("7", "y:c=0?1;y:c-9"), 0, 2, 10, 100);
        rows(with("7", "y:c=9?1"), 0, 4);
        rows(with("7", "y:i=1?0;y:1"), 0, 3);
    }

    private static void letters() {
        Edge.says("p the sign ahead, c the sign");
        rows(with("7", "y:c=0&p=7?1"), 0, 4, 10);
        rows(with("67", "y:c=0&p=6?1"), 0, 4);
        rows(with("0", "y:c=0&p=0?1"), 0, 3, 10, 100, 1000);
        rows(with("3", "y:c=p-1?1"), 0, 4, 1210);
        rows(with("4", "y:c=p-1?1"), 0, 4, 13210);
        rows(with("5", "y:c=p-1?1"), 0, 4);
        Edge.says("i its number in the whole row, from 0");
        rows(with("7", "y:i=1?1"), 0, 4, 10);
        rows(with("7", "y:i=0?1"), 0, 4);
        rows(with("77", "y:i=2?1"), 0, 4, 10);
        rows(with("777777777777", "y:i=12?1"), 0, 4, 10);
        rows(with("777777777777", "y:i=11?1"), 0, 4);
        rows(with("777777777777", "y:i=12&c=1|i=13&c=2|i=14&c=3|i=15&c=0?1"), 0, 4, 11230);
        rows(with("9", "y:i=2&p=0?0;y:1"), 0, 2, 10, 110, 120, 130, 140, 150, 160, 170, 180, 190);
        rows(with("0", "y:i=2&p=1?0;y:c=0|c=1?1"), 0, 3, 10, 100, 1000, 1010);
        Edge.says("others 0");
        rows(with("7", "y:v+k+s+d+n"), 0, 2);
        Edge.due("all of them", with("7", "y:v=0&k=0&s=0&d=0&n=0?1").ends(0, 0, 4, -1), 1111);
        HalfDone x = Check.with("tv9:a1;ha9k9");
        Check.put(x, 1, "y:v+k+s+d+n");
        Check.put(x, 2, "7");
        x.law(0);
        Edge.due("the WISH", x.wish(0, 0), 29);
        Edge.due("but no END", x.ends(0, 0, 4, -1), 0);
    }

    private static void lastIsZero() {
        Edge.says("and the last is 0 (the whole row's last one then)");
        HalfDone x = with("0", "y:c>0|p=0?1");
        rows(x, 0, 1, 10);
        rows(x, 0, 2, 10, 100);
        for (int digits = 0; digits <= 9; digits++) {
            Edge.due("judged(0, 1, " + digits + ")", x.judged(0, 1, digits), digits == 0 ? 1 : 0);
            Edge.due("judged(0, 2, " + digits + ")", x.judged(0, 2, digits), digits == 0 ? 1 : 0);
        }
        Edge.due("a 0 within is no end", x.judged(0, 2, 1), 0);
        Edge.due("the BEGINNING's 0 is no end", with("0", "y:c").ends(0, 0, 4, -1), 0);
    }

    private static void shortest() {
        Edge.says("the SHORTEST length");
        for (int length = 1; length <= 4; length++) {
            HalfDone y = with("7", "y:c>0?1;y:i>" + (length - 1) + "?1");
            for (int n = 1; n <= 4; n++) {
                Edge.due("shortest(0, 0, " + n + ") from " + length, y.shortest(0, 0, n), n >= length ? length : -1);
            }
        }
        Edge.due("none", with("7", "y:c").shortest(0, 0, 4), -1);
    }

    private static void judged() {
        Edge.says("JUDGED: LAWS (bits) that a row behind a BEGINNING FITS");
        HalfDone x = with("7", "y:1", "y:0", "y:c=0?1", "y:c>0|i=2?1", "y:i=1?1", "y:p+c");
        Edge.due("judged(0, 1, 0)", x.judged(0, 1, 0), 1 + 4 + 16 + 32);
        Edge.due("judged(0, 2, 0)", x.judged(0, 2, 0), 1 + 4);
        Edge.due("judged(0, 2, 10)", x.judged(0, 2, 10), 1 + 8 + 32);
        Edge.due("judged(0, 2, 11)", x.judged(0, 2, 11), 0);
        Edge.due("judged(0, 3, 100)", x.judged(0, 3, 100), 1);
        Edge.due("judged(0, 3, 110)", x.judged(0, 3, 110), 1 + 32);
        Edge.due("judged(0, 4, 9990)", x.judged(0, 4, 9990), 1 + 32);
        HalfDone six = with("7", "y:1", "y:1", "y:1", "y:1", "y:1", "y:1");
        Edge.due("all six", six.judged(0, 4, 0), 63);
        Edge.due("none", with("7", "y:0").judged(0, 1, 0), 0);
        Edge.due("no LAWS", with("7").judged(0, 1, 0), 0);
    }

    private static void dearest(HalfDone x, int n, int which, int many) {
        Edge.due("dearest(0, " + n + ", 0)", x.dearest(0, n, 0), which);
        Edge.due("dearest(0, " + n + ", 1)", x.dearest(0, n, 1), many);
    }

    private static void dearest() {
        Edge.says("DEAREST: the row that FITS the most LAWS (one at least; of several the shortest, then the least)");
        HalfDone one = with("7", "y:c=0&p=3|c=3?1");
        dearest(one, 1, -1, -1);
        dearest(one, 2, 130, 1);
        dearest(one, 4, 130, 1);
        HalfDone two = with("7", "y:c=0&p=3|c=3?1", "y:1");
        dearest(two, 1, 10, 1);
        dearest(two, 2, 130, 2);
        dearest(two, 4, 130, 2);
        HalfDone same = with("7", "y:1", "y:1", "y:1", "y:1", "y:1", "y:1");
        dearest(same, 1, 10, 6);
        dearest(same, 4, 10, 6);
        HalfDone least = with("7", "y:c=0&p=8|c=8?1", "y:c=0&p=5|c=5?1");
        dearest(least, 1, -1, -1);
        dearest(least, 2, 150, 1);
        dearest(least, 4, 150, 1);
        HalfDone far = with("7", "y:i<4&c=9|i=4&c=0?1", "y:c=0?1");
        dearest(far, 3, 10, 1);
        dearest(far, 4, 10, 1);
        HalfDone longest = with("7", "y:i<4&c=9|i=4&c=0?1");
        dearest(longest, 3, -1, -1);
        dearest(longest, 4, 19990, 1);
    }
}
