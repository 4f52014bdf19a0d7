/** Edges of what LAWS are worth, of promise 10 (law) and promise 27 (wish). */
final class EdgeWorthTest {
    public static void main(String[] args) {
        within();
        withinConditions();
        overs();
        comparisons();
        clauses();
        law();
        wish();
        letters();
        Check.finish();
    }

    /** The WISH of an HEIR of KIN 2 for a THING of VALUE 7. */
    private static void worth(String law, int want) {
        HalfDone x = Check.with("tv7:a1;hk2");
        Edge.due("text(1) of " + law, Check.put(x, 1, law), 0);
        x.law(0);
        Edge.due("wish by " + law, x.wish(0, 0), want);
    }

    private static void within() {
        Edge.says("Behind each sign numbers are within -1,000,000 .. 1,000,000: +");
        worth("y:9999*100+99", 999999);
        worth("y:9999*100+100", 1000000);
        worth("y:9999*100+101", 1000000);
        worth("y:9999*100+101-1", 999999);
        worth("y:1000*1000+1000*1000", 1000000);
        worth("y:1000*1000+9999-9999", 990001);
        Edge.says("Behind each sign numbers are within -1,000,000 .. 1,000,000: -");
        worth("y:0-9999*100-99", -999999);
        worth("y:0-9999*100-100", -1000000);
        worth("y:0-9999*100-101", -1000000);
        worth("y:0-9999*100-101+1", -999999);
        worth("y:0-1000*1000-1000*1000", -1000000);
        worth("y:0-1000*1000-9999+9999", -990001);
        worth("y:1000*1000-[0-1]", 1000000);
        worth("y:[0-1000*1000]+[0-1]", -1000000);
        Edge.says("Behind each sign numbers are within -1,000,000 .. 1,000,000: *");
        worth("y:999*1001", 999999);
        worth("y:1000*1000", 1000000);
        worth("y:101*9901", 1000000);
        worth("y:101*9901-1", 999999);
        worth("y:9999*9999", 1000000);
        worth("y:9999*9999*9999*9999*9999*9999", 1000000);
        worth("y:[0-999]*1001", -999999);
        worth("y:[0-1000]*1000", -1000000);
        worth("y:[0-101]*9901", -1000000);
        worth("y:[0-101]*9901+1", -999999);
        worth("y:9999*[0-9999]", -1000000);
        worth("y:[0-9999*9999]*9999*9999", -1000000);
        worth("y:[0-9999*9999]*[0-9999*9999]", 1000000);
        worth("y:[0-1000*1000]*[1000*1000]", -1000000);
        Edge.says("Behind each sign numbers are within -1,000,000 .. 1,000,000: /");
        worth("y:1000*1000/1", 1000000);
        worth("y:9999*9999/1000", 1000);
        worth("y:9999*9999/9999*9999", 999900);
        worth("y:[0-1000*1000]/[0-1]", 1000000);
        worth("y:1000*1000/[0-1]", -1000000);
    }

    private static void withinConditions() {
        Edge.says("Behind each sign numbers are within -1,000,000 .. 1,000,000: in CONDITIONS too");
        worth("y:1000*1000=1000*1001?1;y:2", 1);
        worth("y:1000*1000+1>1000*1000?1;y:2", 2);
        worth("y:0-1000*1000-1<0-1000*1000?1;y:2", 2);
        worth("y:999*1001<1000*1000?1;y:2", 1);
        worth("y:9999>9998?1;y:2", 1);
        worth("y:9999*9999/100=9999+1?1;y:2", 1);
    }

    private static void overs() {
        Edge.says("/ cuts towards 0");
        worth("y:6/3", 2);
        worth("y:7/3", 2);
        worth("y:8/3", 2);
        worth("y:9/3", 3);
        worth("y:[0-6]/3", -2);
        worth("y:[0-7]/3", -2);
        worth("y:[0-8]/3", -2);
        worth("y:[0-9]/3", -3);
        worth("y:8/[0-3]", -2);
        worth("y:[0-8]/[0-3]", 2);
        worth("y:1/2", 0);
        worth("y:[0-1]/2", 0);
        worth("y:0/5", 0);
        worth("y:1000*1000/[0-3]", -333333);
        Edge.says("/ by 0 gives 0");
        worth("y:7/1", 7);
        worth("y:7/0", 0);
        worth("y:7/[0-1]", -7);
        worth("y:0/0", 0);
        worth("y:[0-7]/0", 0);
        worth("y:1000*1000/0", 0);
        worth("y:7/0+3", 3);
        worth("y:7/0*3", 0);
        worth("y:7/[v-7]", 0);
        worth("y:7/[v-6]", 7);
        worth("y:7/p/c/i", 0);
        worth("y:7/0=0?1;y:2", 1);
        worth("y:1/2/0", 0);
    }

    private static void comparisons() {
        Edge.says("SUM, one of = < >, SUM");
        worth("y:v=6?1;y:2", 2);
        worth("y:v=7?1;y:2", 1);
        worth("y:v=8?1;y:2", 2);
        worth("y:v<6?1;y:2", 2);
        worth("y:v<7?1;y:2", 2);
        worth("y:v<8?1;y:2", 1);
        worth("y:v>6?1;y:2", 1);
        worth("y:v>7?1;y:2", 2);
        worth("y:v>8?1;y:2", 2);
        worth("y:0-v<0-6?1;y:2", 1);
        worth("y:0-v>0-8?1;y:2", 1);
        Edge.says("TRUTHS with | between; UNITS with & between; ! UNIT");
        worth("y:v>6&k=2?1;y:2", 1);
        worth("y:k=2&v>6?1;y:2", 1);
        worth("y:v<8&v>6?1;y:2", 1);
        worth("y:v<8&v>7?1;y:2", 2);
        worth("y:v<7|v>6?1;y:2", 1);
        worth("y:v<7|v>7?1;y:2", 2);
        worth("y:!v>6?1;y:2", 2);
        worth("y:!v>7?1;y:2", 1);
        worth("y:!v<7&!v>7?1;y:2", 1);
        worth("y:!v<8|!k>1?1;y:2", 2);
        String[] truths = {"v=8", "v=7"};
        for (int k = 0; k < 8; k++) {
            int a = k & 1;
            int b = k >> 1 & 1;
            int c = k >> 2;
            String one = truths[a];
            String two = truths[b];
            String three = truths[c];
            worth("y:" + one + "|" + two + "&" + three + "?1;y:2", 2 - (a | b & c));
            worth("y:" + one + "&" + two + "|" + three + "?1;y:2", 2 - (a & b | c));
            worth("y:(" + one + "|" + two + ")&" + three + "?1;y:2", 2 - ((a | b) & c));
            worth("y:!" + one + "&" + two + "|!" + three + "?1;y:2", 2 - ((1 - a) & b | (1 - c)));
            worth("y:!(" + one + "|" + two + ")|!!" + three + "?1;y:2", 2 - (1 - (a | b) | c));
        }
    }

    private static void clauses() {
        Edge.says("WORTH of a LAW: the SUM of the first CLAUSE whose CONDITION holds (or has none), 0 without");
        worth("y:3", 3);
        worth("y:3;y:4", 3);
        worth("y:v=7?3;y:4", 3);
        worth("y:v=8?3;y:4", 4);
        worth("y:v=8?3;y:v=7?4;y:v=7?5", 4);
        worth("y:v=8?3;y:v=7?4;y:5", 4);
        worth("y:v=8?3;y:v=9?4;y:5;y:6", 5);
        worth("y:v=8?3", 0);
        worth("y:v=8?3;y:v=9?4", 0);
        worth(Edge.clauses("y:v=8?3", 29) + "y:5", 5);
        worth(Edge.clauses("y:v=8?3", 29) + "y:v=7?6", 6);
        worth(Edge.clauses("y:v=8?3", 29) + "y:v=8?6", 0);
        Edge.says("LAWS are TEXTS, of 240 bytes at most");
        worth("y:10" + Edge.times("+1", 118), 128);
        worth("y:10" + Edge.times("-v", 118), 10 - 7 * 118);
        worth("y:" + Edge.times("v=7&", 58) + "v=7?10", 10);
        worth("y:" + Edge.times("v=8|", 58) + "v=7?10", 10);
        worth("y:" + Edge.times("v=8|", 58) + "v=8?10", 0);
        worth("y:v=8|v=7&(v=8|v=7&(v=8|v=7&(v=8|v=7&([v-7]+1*[0+1*v]=7))))?5;y:6", 5);
        worth("y:0+1*[0+1*[0+1*[0+1*[0+1*[0+1*v]]]]]", 7);
    }

    private static void law() {
        Edge.says("law: False: no such one, no WILL.");
        for (int law : new int[] {-2, -1, 0, 1, 2, Integer.MIN_VALUE, Integer.MAX_VALUE}) {
            Edge.refused("law(" + law + ") without a WILL", Edge::none, o -> o.law(law) ? 1 : 0, 0);
        }
        for (int law : new int[] {-2, 2, 6, Integer.MIN_VALUE, Integer.MAX_VALUE}) {
            Edge.refused("law(" + law + ") of two", Edge::amid, o -> o.law(law) ? 1 : 0, 0);
        }
        for (int law : new int[] {-2, 6}) {
            Edge.refused("law(" + law + ") of six", Edge::full, o -> o.law(law) ? 1 : 0, 0);
        }
        HalfDone x = Check.with("tv7:a1;h");
        Edge.due("law(0) of none", x.law(0), false);
        Edge.due("law(-1) of none", x.law(-1), true);
        Edge.says("The LAW that holds (NONE: none).");
        for (int law = 0; law < 6; law++) {
            Edge.due("law(" + law + ") before it is told", x.law(law), false);
            Check.put(x, 1, "y:100+" + law);
            Edge.due("law(" + law + ")", x.law(law), true);
            Edge.due("count(7)", x.count(7), law);
            Edge.due("wish(0, 0)", x.wish(0, 0), 100 + law);
        }
        Edge.due("law(5) once more", x.law(5), true);
        Edge.due("law(-1)", x.law(-1), true);
        Edge.due("count(7)", x.count(7), -1);
        Edge.due("wish(0, 0)", x.wish(0, 0), 7);
        Edge.due("law(-1) once more", x.law(-1), true);
    }

    private static void wish() {
        Edge.says("wish: HIDDEN: no such ones.");
        Edge.refused("wish(0, 0) without a WILL", Edge::none, o -> o.wish(0, 0), -1000000);
        for (int wrong : new int[] {-1, 2, Integer.MIN_VALUE, Integer.MAX_VALUE}) {
            Edge.refused("wish(" + wrong + ", 0) of two HEIRS", Edge::amid, o -> o.wish(wrong, 0), -1000000);
        }
        for (int wrong : new int[] {-1, 4, Integer.MIN_VALUE, Integer.MAX_VALUE}) {
            Edge.refused("wish(0, " + wrong + ") of four THINGS", Edge::amid, o -> o.wish(0, wrong), -1000000);
        }
        HalfDone x = Edge.full();
        Edge.due("wish(5, 5), c is 0", x.wish(5, 5), 1);
        Edge.due("wish(6, 5)", x.wish(6, 5), -1000000);
        Edge.due("wish(5, 6)", x.wish(5, 6), -1000000);
        Edge.says("none at first: VALUE");
        HalfDone y = Check.with("tv0:a1;tv99d1:a1;tr1:b1;h");
        Edge.due("wish(0, 0)", y.wish(0, 0), 0);
        Edge.due("FINISHED", y.wish(0, 1), 99);
        y.days(1);
        Edge.due("ROTTEN", y.wish(0, 2), 10);
        HalfDone z = Check.with("t:a1;h");
        Check.put(z, 1, "y:0-1000*1000");
        z.law(0);
        Edge.due("a WISH of as little as HIDDEN", z.wish(0, 0), -1000000);
    }

    private static void letter(String will, String law, int heir, int thing, int want) {
        HalfDone x = Check.with(will);
        Check.put(x, 1, law);
        x.law(0);
        Edge.due("wish(" + heir + ", " + thing + ") by " + law + " of " + will, x.wish(heir, thing), want);
    }

    private static void letters() {
        Edge.says("letters: v VALUE");
        letter("tv0:a1;h", "y:v+1", 0, 0, 1);
        letter("tv99:a1;h", "y:v+1", 0, 0, 100);
        Edge.says("letters: k KIN");
        letter("t:a1;h", "y:k+1", 0, 0, 1);
        letter("t:a1;hk9", "y:k+1", 0, 0, 10);
        Edge.says("letters: s all SKILLS together");
        letter("t:a1;hk9", "y:s+1", 0, 0, 1);
        letter("t:a1;ha9b9c9d9e9k9;h", "y:s+1", 0, 0, 46);
        letter("t:a1;ha1;he2", "y:s+1", 1, 0, 3);
        Edge.says("letters: d days ALONE (0 if it can't, or the THING is FINISHED or ROTTEN)");
        letter("t:a1;ha9", "y:d", 0, 0, 1);
        letter("tr1:a9a9a9a9a9a9a9a9;ha1", "y:d", 0, 0, 216);
        letter("t:a1b1;ha9", "y:d+5", 0, 0, 5);
        letter("td1:a1;ha9", "y:d+5", 0, 0, 5);
        HalfDone x = Check.with("tr1:a1a1;t:a1a1;ha9");
        Check.put(x, 1, "y:d*10+n");
        x.law(0);
        Edge.due("wish(0, 0) by d, n", x.wish(0, 0), 22);
        x.give(1, 0);
        x.days(1);
        Edge.due("wish(0, 0) by d, n, if ROTTEN", x.wish(0, 0), 2);
        Edge.due("wish(0, 1) by d, n, a STEP done", x.wish(0, 1), 11);
        x.days(1);
        Edge.due("wish(0, 1) by d, n, if FINISHED", x.wish(0, 1), 0);
        Edge.says("letters: n STEPS LEFT");
        letter("t:a1;h", "y:n", 0, 0, 1);
        letter("td1:a1;h", "y:n+7", 0, 0, 7);
        letter("t:a1a1a1a1a1a1a1a1;h", "y:n", 0, 0, 8);
        letter("td7:a1a1a1a1a1a1a1a1;h", "y:n", 0, 0, 1);
        Edge.says("letters: p, c, i 0");
        letter("tv9:a1;ha9k9", "y:p+c+i+3", 0, 0, 3);
        letter("tv9:a1;ha9k9", "y:p=0&c=0&i=0?4;y:5", 0, 0, 4);
    }
}
