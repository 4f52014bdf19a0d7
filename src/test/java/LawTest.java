/** Promises 10 (law) and 27 (wish), and what LAWS are worth. */
final class LawTest {
    public static void main(String[] args) {
        holds();
        letters();
        worths();
        Check.finish();
    }

    private static void holds() {
        HalfDone x = new HalfDone();
        Check.put(x, 1, "y:1");
        Check.due("law(0) without a WILL", x.law(0), false);
        Check.due("law(-1) without a WILL", x.law(-1), false);
        Check.put(x, 0, "tv7:a1;h");
        Check.put(x, 1, "y:2");
        Check.due("none holds at first", x.count(7), -1);
        Check.due("wish is the VALUE", x.wish(0, 0), 7);
        Check.due("law(1)", x.law(1), true);
        Check.due("it holds", x.count(7), 1);
        Check.due("wish by it", x.wish(0, 0), 2);
        Check.due("law(2)", x.law(2), false);
        Check.due("law(-2)", x.law(-2), false);
        Check.due("law(2147483647)", x.law(Integer.MAX_VALUE), false);
        Check.due("it holds still", x.count(7), 1);
        Check.due("law(0)", x.law(0), true);
        Check.due("wish by it", x.wish(0, 0), 1);
        Check.due("law(-1)", x.law(-1), true);
        Check.due("none holds", x.count(7), -1);
        Check.due("wish is the VALUE", x.wish(0, 0), 7);
        Check.due("it is no ACT", x.count(9), 0);
    }

    private static int wish(String will, String law, int heir, int thing) {
        HalfDone x = Check.with(will);
        Check.put(x, 1, law);
        x.law(0);
        return x.wish(heir, thing);
    }

    private static void letters() {
        String will = "tv12r2d1:a1b2a3;td1:a1;ha3b2k5;hc4e1k9";
        Check.due("v", wish(will, "y:v", 0, 0), 12);
        Check.due("k", wish(will, "y:k", 1, 0), 9);
        Check.due("s", wish(will, "y:s", 1, 0), 5);
        Check.due("s, a among them", wish(will, "y:s+0", 0, 0), 5);
        Check.due("d, late or not", wish(will, "y:d", 0, 0), 6);
        Check.due("d, if it can't", wish(will, "y:d", 1, 0), 0);
        Check.due("d, if FINISHED", wish(will, "y:d", 0, 1), 0);
        Check.due("n", wish(will, "y:n", 0, 0), 2);
        Check.due("n, if FINISHED", wish(will, "y:n", 0, 1), 0);
        Check.due("p, c, i", wish(will, "y:p+c+i", 0, 0), 0);
        HalfDone x = Check.with("tr1:a1a1;ha3");
        Check.put(x, 1, "y:d*10+n");
        x.law(0);
        Check.due("d and n", x.wish(0, 0), 22);
        x.give(0, 0);
        x.days(1);
        Check.due("d and n, if ROTTEN", x.wish(0, 0), 1);
        Check.put(x, 1, "y:p+c+i");
        Check.put(x, 1, "y:v+k+s+d+n");
        Check.put(x, 2, "78");
        x.law(1);
        Check.due("signs have a worth", x.ends(0, 1, 1, -1), 1);
        Check.due("but wishes have no signs", x.wish(0, 0), 0);
        x.law(2);
        Check.due("wishes have a worth", x.wish(0, 0), 14);
        Check.due("but signs have no wishes", x.ends(0, 2, 1, -1), 0);
        Check.due("wish(1, 0)", x.wish(1, 0), -1000000);
        Check.due("wish(0, 1)", x.wish(0, 1), -1000000);
        Check.due("wish(-1, 0)", x.wish(-1, 0), -1000000);
        Check.due("wish(0, -1)", x.wish(0, -1), -1000000);
    }

    /** VALUE 7, KIN 2. */
    private static void worth(String law, int want) {
        Check.due("wish by " + law, wish("tv7:a1;hk2", law, 0, 0), want);
    }

    private static void worths() {
        worth("y:2+3*4", 14);
        worth("y:[2+3]*4", 20);
        worth("y:9-3-2", 4);
        worth("y:20/3/2", 3);
        worth("y:20/3*3", 18);
        worth("y:0-7/2", -3);
        worth("y:[0-7]/2", -3);
        worth("y:7/[0-2]", -3);
        worth("y:7/0", 0);
        worth("y:7/[v-7]+1", 1);
        worth("y:1000*1000", 1000000);
        worth("y:1000*1001", 1000000);
        worth("y:9999*9999*9999*9999", 1000000);
        worth("y:9999*9999/10", 100000);
        worth("y:0-9999*9999", -1000000);
        worth("y:0-9999*9999-1", -1000000);
        worth("y:9999*9999+1", 1000000);
        worth("y:[0-9999*9999]*[0-9999*9999]", 1000000);
        worth("y:v=7?1;y:2", 1);
        worth("y:v=8?1;y:2", 2);
        worth("y:v=8?1;y:k=2?3;y:2", 3);
        worth("y:v=8?1;y:k=3?3", 0);
        worth("y:5;y:6", 5);
        worth("y:v>6?1", 1);
        worth("y:v>7?1", 0);
        worth("y:v<8?1", 1);
        worth("y:v<7?1", 0);
        worth("y:!v<7?1", 1);
        worth("y:!!v<7?1", 0);
        worth("y:v=7|v=8&v=9?1", 1);
        worth("y:(v=7|v=8)&v=9?1", 0);
        worth("y:v=9&v=8|v=7?1", 1);
        worth("y:!v=7|k=2?1", 1);
        worth("y:!(v=7|k=2)?1", 0);
        worth("y:!v=8&!k=3?1", 1);
        worth("y:v+k*2=11?v*k-1;y:3", 13);
        worth("y:[v+k]*2=18?1", 1);
        worth(" y : ! ( v = 7 & k = 3 ) ? [ v + 1 ] * 10 ", 80);
    }
}
