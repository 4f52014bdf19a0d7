/** Edges of a WILL as a TEXT: 'Terms', part 1, promise 4 (fault) and promise 5 (text), sort 0. */
final class EdgeWillTest {
    private static final String NINE_STEPS = "a1b2c3d4e5a6b7c8d9";

    private static HalfDone x;

    public static void main(String[] args) {
        clauses();
        letters();
        values();
        rots();
        dones();
        steps();
        heirs();
        tools();
        blanks();
        tooEarly();
        wrongItself();
        Check.finish();
    }

    /** A new object each time, which stays for what is asked of it then. */
    private static void on(String text) {
        x = new HalfDone();
        Check.tape(x, text);
    }

    private static void fault(String text, int want) {
        on(text);
        Edge.due("fault(0) of '" + text + "'", x.fault(0), want);
        Edge.due("text(0) of '" + text + "'", x.text(0), -1);
        Edge.due("it is not the WILL", x.count(0), 0);
        Edge.due("its bytes stay", x.count(5), text.length());
    }

    private static void whole(String text, int things) {
        on(text);
        Edge.due("fault(0) of '" + text + "'", x.fault(0), -1);
        Edge.due("text(0) of '" + text + "'", x.text(0), things);
        Edge.due("count(0)", x.count(0), things);
        Edge.due("the TAPE is empty then", x.count(5), 0);
    }

    private static void clauses() {
        Edge.says("t (a THING; 1 .. 6)");
        fault("h", 1);
        whole("h;t:a1", 1);
        whole("h;t:a1;t:a1;t:a1;t:a1;t:a1", 5);
        whole("h;t:a1;t:a1;t:a1;t:a1;t:a1;t:a1", 6);
        Edge.says("h (an HEIR; 1 .. 6)");
        fault("t:a1", 4);
        whole("t:a1;h", 1);
        whole("t:a1;h;h;h;h;h", 1);
        Edge.due("count(1)", x.count(1), 5);
        whole("t:a1;h;h;h;h;h;h", 1);
        Edge.due("count(1)", x.count(1), 6);
        Edge.says("g (a TOOL; none to 4)");
        whole("t:a1;h", 1);
        Edge.due("count(2)", x.count(2), 0);
        whole("t:a1;h;ga;gb;gc", 1);
        Edge.due("count(2)", x.count(2), 3);
        whole("t:a1;h;ga;gb;gc;gd", 1);
        Edge.due("count(2)", x.count(2), 4);
        Edge.says("a seventh t or h, a fifth g at it");
        fault("h;t:a1;t:a1;t:a1;t:a1;t:a1;t:a1;t:a1", 32);
        fault("t:a1;h;h;h;h;h;h;h", 17);
        fault("t:a1;h;ga;gb;gc;gd;ge", 19);
        fault("t:a1;h;h;h;h;h;h; h;x", 18);
        String full = Edge.clauses("t:a1", 6) + Edge.clauses("h", 6) + Edge.clauses("ga", 4);
        whole(full.substring(0, 53), 6);
        for (String more : new String[] {"t:a1", "h", "ga"}) {
            fault(full + more, 54);
        }
        Edge.says("in any order");
        for (String text : new String[] {"t:a1;h;ga", "t:a1;ga;h", "h;t:a1;ga", "h;ga;t:a1", "ga;h;t:a1", "ga;t:a1;h"}) {
            whole(text, 1);
        }
        whole("h;t:a1;ga;h;t:a1;ga;h", 2);
        Edge.says("CLAUSES with ; between");
        fault(";t:a1;h", 0);
        fault("t:a1;;h", 5);
        fault("t:a1h", 4);
        fault("t:a1,h", 4);
        fault("t:a1;h;", 7);
        for (char wrong = 1; wrong <= 255; wrong++) {
            if ("thg ".indexOf(wrong) < 0) {
                fault(wrong + "", 0);
            }
        }
    }

    private static void letters() {
        Edge.says("a letter, each once at most in a CLAUSE");
        whole("tv1r1d1:a1;tv1r1d1:a1;ha1b1c1d1e1k1;ha1b1c1d1e1k1", 2);
        Edge.says("a letter that was there");
        fault("tv1v1:a1;h", 3);
        fault("tr1r1:a1;h", 3);
        fault("td1d1:a1;h", 3);
        fault("tv1r1v1:a1;h", 5);
        fault("tr1d1r1:a1;h", 5);
        fault("td1v1d1:a1;h", 5);
        fault("td1v1r1d1:a1;h", 7);
        fault("tr1d1v1r:a1;h", 7);
        for (char one : "abcdek".toCharArray()) {
            whole("t:a1;h" + one + "1", 1);
            fault("t:a1;h" + one + "1" + one + "1", 8);
            fault("t:a1;h" + one + "1 " + one, 9);
        }
        fault("t:a1;ha1b1a1", 10);
        fault("t:a1;hk1a1b1k1", 12);
        fault("t:a1;he1d1c1k1b1a1e", 18);
        Edge.says("of t: v, r, d; of h: a, b, c, d, e, k");
        for (char one = 'a'; one <= 'z'; one++) {
            if ("vrd".indexOf(one) < 0) {
                fault("t" + one + "1:a1;h", 1);
            }
            if ("abcdek".indexOf(one) < 0) {
                fault("t:a1;h" + one + "1", 6);
            }
        }
        Edge.says("ITEMS, none or more");
        whole("t:a1;h", 1);
        Edge.due("VALUE", Check.thing(x, 0, 0), 10);
        Edge.due("ROTS", Check.thing(x, 0, 1), 30);
        Edge.due("DONE", Check.thing(x, 0, 2), 0);
        for (int what = 0; what <= 5; what++) {
            Edge.due("heir(0, " + what + ")", x.heir(0, what), 0);
        }
        Edge.says("a number (one or two digits)");
        for (char one : "vrd".toCharArray()) {
            fault("t" + one + ":a1;h", 2);
            fault("t" + one, 2);
            whole("t" + one + "1:a1;h", 1);
            whole("t" + one + "01:a1;h", 1);
            fault("t" + one + "001:a1;h", 4);
        }
        for (char one : "abcdek".toCharArray()) {
            fault("t:a1;h" + one + ";h", 7);
            fault("t:a1;h" + one, 7);
            whole("t:a1;h" + one + "1", 1);
            whole("t:a1;h" + one + "01", 1);
            fault("t:a1;h" + one + "001", 9);
        }
    }

    private static void item(String number, int what, int want) {
        whole("t" + number + ":a1a1a1a1a1a1a1a1;h", 1);
        Edge.due("thing(0, " + what + ")", Check.thing(x, 0, what), want);
    }

    private static void values() {
        Edge.says("v VALUE (0 .. 99; 10 without)");
        item("v0", 0, 0);
        item("v1", 0, 1);
        item("v00", 0, 0);
        item("v09", 0, 9);
        item("v98", 0, 98);
        item("v99", 0, 99);
        item("", 0, 10);
        fault("tv100:a1;h", 4);
        fault("tv990:a1;h", 4);
    }

    private static void rots() {
        Edge.says("r ROTS (1 .. 99; 30)");
        item("r1", 1, 1);
        item("r01", 1, 1);
        item("r98", 1, 98);
        item("r99", 1, 99);
        item("", 1, 30);
        fault("tr100:a1;h", 4);
        Edge.says("a number out of bounds is wrong at its last digit");
        fault("tr0:a1;h", 2);
        fault("tr00:a1;h", 3);
        fault("tr 00 :a1;h", 4);
    }

    private static void dones() {
        Edge.says("d DONE (0 .. 8; 0)");
        item("d0", 2, 0);
        item("d00", 2, 0);
        item("d1", 2, 1);
        item("d7", 2, 7);
        item("d8", 2, 8);
        item("d08", 2, 8);
        item("", 2, 0);
        Edge.says("a number out of bounds is wrong at its last digit");
        fault("td9:a1;h", 2);
        fault("td09:a1;h", 3);
        fault("td10:a1;h", 3);
        fault("td99:a1;h", 3);
        Edge.says("with a THING that has more DONE than STEPS");
        whole("td0:a1;h", 1);
        whole("td1:a1;h", 1);
        fault("td2:a1;h", 8);
        fault("td2:a1;h  ", 10);
        whole("td6:a1a1a1a1a1a1a1;h", 1);
        whole("td7:a1a1a1a1a1a1a1;h", 1);
        fault("td8:a1a1a1a1a1a1a1;h", 20);
        whole("td8:a1a1a1a1a1a1a1a1;h", 1);
        fault("h;t:a1;td1:a1;td3:a1a1", 22);
        fault("td2:a1;h;f", 9);
    }

    private static void steps() {
        Edge.says("STEPS, one to eight");
        fault("t:;h", 2);
        fault("t:", 2);
        for (int steps = 1; steps <= 8; steps++) {
            whole("t:" + NINE_STEPS.substring(0, 2 * steps) + ";h", 1);
            Edge.due("STEPS", Check.thing(x, 0, 3), steps);
            Edge.due("the last one's TRADE", x.step(0, steps - 1, 0), (steps - 1) % 5);
            Edge.due("the last one's DAYS", x.step(0, steps - 1, 1), steps);
            Edge.due("one behind it", x.step(0, steps, 0), -1);
        }
        Edge.says("a ninth STEP at its TRADE");
        fault("t:" + NINE_STEPS + ";h", 18);
        fault("t:" + NINE_STEPS.substring(0, 16) + " d", 19);
        fault("t:" + NINE_STEPS.substring(0, 16) + "f", 18);
        Edge.says("a TRADE a .. e");
        for (char trade = 'a'; trade <= 'e'; trade++) {
            whole("t:" + trade + "1;h", 1);
            Edge.due("its TRADE", x.step(0, 0, 0), trade - 'a');
        }
        for (char wrong : new char[] {'`', 'f', 'A', 'E', '@', 225}) {
            fault("t:" + wrong + "1;h", 2);
            fault("t:a1" + wrong + "1;h", 4);
        }
        Edge.says("its DAYS, a digit 1 .. 9");
        for (int days = 1; days <= 9; days++) {
            whole("t:a" + days + ";h", 1);
            Edge.due("its DAYS", x.step(0, 0, 1), days);
        }
        for (char wrong : new char[] {'0', '/', ':', 'a', ';'}) {
            fault("t:a" + wrong + ";h", 3);
            fault("t:a1b" + wrong + ";h", 5);
        }
        Edge.says("a second one of DAYS itself");
        for (int digits = 10; digits <= 99; digits += 89) {
            fault("t:a" + digits + ";h", 4);
            fault("t:a1b" + digits + ";h", 6);
        }
        fault("t:a00;h", 3);
        fault("t:a1" + Edge.times("b2", 6) + "c30", 18);
        fault("t:a1" + Edge.times("b2", 6) + "c3 0", 19);
    }

    private static void heirs() {
        Edge.says("of h: a, b, c, d, e SKILLS in TRADES (0 .. 9; 0), k KIN (0 .. 9; 0)");
        for (int what = 0; what <= 5; what++) {
            String h = "t:a1;h" + "abcdek".charAt(what);
            for (int number = 0; number <= 9; number++) {
                whole(h + number, 1);
                Edge.due("heir(0, " + what + ")", x.heir(0, what), number);
                whole(h + "0" + number, 1);
                Edge.due("heir(0, " + what + ")", x.heir(0, what), number);
            }
            Edge.due("another one of it, without", x.heir(0, what == 5 ? 0 : 5), 0);
        }
        Edge.says("a number out of bounds is wrong at its last digit");
        for (char one : "abcdek".toCharArray()) {
            fault("t:a1;h" + one + "10", 8);
            fault("t:a1;h" + one + "99;x", 8);
            fault("h" + one + "10;t:a1", 3);
        }
    }

    private static void tools() {
        Edge.says("of g: a letter a .. e alone (once): its TRADE");
        for (char trade = 'a'; trade <= 'e'; trade++) {
            whole("t:a1;h;g" + trade, 1);
            Edge.due("tools of it", x.tools(trade - 'a'), 1);
            Edge.due("all TOOLS", x.count(2), 1);
        }
        fault("t:a1;h;g", 8);
        fault("t:a1;h;g;ga", 8);
        for (char wrong : new char[] {'`', 'f', 'k', 'v', '1', 'A'}) {
            fault("t:a1;h;g" + wrong, 8);
        }
        fault("t:a1;h;ga1", 9);
        fault("t:a1;h;gaa", 9);
        fault("t:a1;h;gab", 9);
        fault("t:a1;h;ga:", 9);
    }

    private static void blanks() {
        Edge.says("Blanks (32) may stand between all signs of these");
        whole(" t v 12 r 34 d 1 : a 1 b 2 ; h a 3 k 04 ; g b ", 1);
        Edge.due("VALUE", Check.thing(x, 0, 0), 12);
        Edge.due("ROTS", Check.thing(x, 0, 1), 34);
        Edge.due("KIN", x.heir(0, 5), 4);
        whole(Edge.times(" ", 234) + "t:a1;h", 1);
        whole("t:a1;" + Edge.times(" ", 234) + "h", 1);
        for (char wrong : new char[] {9, 10, 13, 31, 33, 160}) {
            fault("t" + wrong + ":a1;h", 1);
            fault(wrong + "t:a1;h", 0);
            fault("t:a1;h" + wrong, 6);
        }
        Edge.says("not within numbers");
        fault("tv1 2:a1;h", 4);
        fault("tr1 2:a1;h", 4);
        fault("td0 1:a1;h", 4);
        fault("t:a1;ha0 1", 9);
        fault("t:a1;hk0  1", 10);
    }

    private static void tooEarly() {
        Edge.says("the length, if it ends too early");
        String text = "tv20r10d1:a2b3;ha3k4;gb";
        for (int bytes = 0; bytes < text.length(); bytes++) {
            String ahead = text.substring(0, bytes);
            if (bytes == 16 || bytes == 18 || bytes == 20) {
                whole(ahead, 1);
            } else {
                fault(ahead, bytes);
            }
        }
        whole(text, 1);
        Edge.says("without a THING, an HEIR");
        fault("", 0);
        fault(" ", 1);
        fault("h;h;h", 5);
        fault("ga", 2);
        fault("h;ga", 4);
        fault("t:a1;t:a1", 9);
        fault("t:a1;ga ", 8);
        Edge.says("the first byte at which no such TEXT can go on");
        for (int bytes = 0; bytes <= text.length(); bytes++) {
            fault(text.substring(0, bytes) + "~" + text.substring(bytes), bytes);
        }
    }

    private static void wrongItself() {
        Edge.says("a third digit (whatever stands ahead of it) itself");
        for (String three : new String[] {"000", "001", "099", "100", "999"}) {
            fault("tv" + three + ":a1;h", 4);
            fault("tr" + three + ":a1;h", 4);
            fault("td" + three + ":a1;h", 4);
            fault("t:a1;ha" + three, 9);
            fault("t:a1;hk" + three + "4", 9);
        }
        fault("t r 123 :a1;h", 6);
    }
}
