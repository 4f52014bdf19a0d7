/** Edges of LAWS and BEGINNINGS as TEXTS, of promise 4 (fault) and of promise 5 (text). */
final class EdgeTextTest {
    private static HalfDone x;

    public static void main(String[] args) {
        lawClauses();
        lawNumbers();
        lawLetters();
        conditions();
        nested();
        lawBlanks();
        lawTooEarly();
        beginnings();
        sorts();
        soMany();
        anotherWill();
        Check.finish();
    }

    private static void on(String text) {
        x = new HalfDone();
        Check.tape(x, text);
    }

    private static void fault(int sort, String text, int want) {
        on(text);
        Edge.due("fault(" + sort + ") of '" + text + "'", x.fault(sort), want);
        Edge.due("text(" + sort + ") of '" + text + "'", x.text(sort), -1);
        Edge.due("nothing is put", x.count(3) + x.count(4), 0);
        Edge.due("its bytes stay", x.count(5), text.length());
    }

    private static void whole(int sort, String text) {
        on(text);
        Edge.due("fault(" + sort + ") of '" + text + "'", x.fault(sort), -1);
        Edge.due("text(" + sort + ") of '" + text + "'", x.text(sort), 0);
        Edge.due("there is one", x.count(2 + sort), 1);
        Edge.due("the TAPE is empty then", x.count(5), 0);
    }

    private static void lawClauses() {
        Edge.says("CLAUSES with ; between, one at least");
        fault(1, "", 0);
        fault(1, " ", 1);
        whole(1, "y:1");
        whole(1, "y:1;y:2");
        whole(1, Edge.clauses("y:1", 59) + "y:10");
        fault(1, ";y:1", 0);
        fault(1, "y:1;", 4);
        fault(1, "y:1;;y:1", 4);
        fault(1, "y:1y:2", 3);
        fault(1, "y1", 1);
        fault(1, "y;", 1);
        fault(1, "y:", 2);
        fault(1, "y:;y:1", 2);
        Edge.says("y, : , perhaps CONDITION ?, then SUM");
        for (char wrong = 1; wrong <= 255; wrong++) {
            if (wrong != 'y' && wrong != ' ') {
                fault(1, wrong + ":1", 0);
            }
        }
        whole(1, "y:v=1?2");
        fault(1, "y:?2", 2);
        fault(1, "y:v=1?", 6);
        fault(1, "y:v=1??2", 6);
        fault(1, "y:v=1?2?3", 7);
        fault(1, "y:v=1?2=3", 7);
        fault(1, "y:v=1?!v=1", 6);
        fault(1, "y:v=1?(v=1)", 6);
    }

    private static void lawNumbers() {
        Edge.says("a number (1 to 4 digits)");
        for (String number : new String[] {"0", "9", "00", "99", "000", "999", "0000", "9999"}) {
            whole(1, "y:" + number);
            whole(1, "y:v=" + number + "?" + number);
        }
        Edge.says("a fifth one in a LAW itself (whatever stands ahead of it)");
        for (String number : new String[] {"00000", "00001", "10000", "99999", "123456"}) {
            fault(1, "y:" + number, 6);
            fault(1, "y:v+" + number, 8);
            fault(1, "y:v=" + number + "?1", 8);
            fault(1, "y:[" + number + "]", 7);
        }
    }

    private static void lawLetters() {
        Edge.says("a letter (v k s d n p c i)");
        for (char one = 1; one <= 255; one++) {
            if ("vksdnpci".indexOf(one) >= 0) {
                whole(1, "y:" + one);
                whole(1, "y:" + one + "+" + one + "=" + one + "?" + one);
                fault(1, "y:" + one + one, 3);
            } else if ("!([ 0123456789".indexOf(one) < 0) {
                fault(1, "y:" + one, 2);
                fault(1, "y:1+" + one, 4);
                fault(1, "y:v<1?" + one, 6);
            }
        }
        Edge.says("TERMS with + or - between; ATOMS with * or / between");
        for (char one : "+-*/".toCharArray()) {
            whole(1, "y:v" + one + "k");
            whole(1, "y:v" + one + "k" + one + "1");
            fault(1, "y:" + one + "v", 2);
            fault(1, "y:v" + one, 4);
            fault(1, "y:v" + one + one + "k", 4);
            fault(1, "y:v" + one + "=1?1", 4);
            fault(1, "y:[" + one + "v]", 3);
        }
    }

    private static void conditions() {
        Edge.says("(A CLAUSE that goes on with ! or ( behind its : has a CONDITION.)");
        whole(1, "y:!v=1?1");
        fault(1, "y:!v=1", 6);
        fault(1, "y:!v=1;y:2", 6);
        fault(1, "y:!v?1", 4);
        fault(1, "y:!1", 4);
        fault(1, "y:!", 3);
        whole(1, "y:(v=1)?1");
        fault(1, "y:(v=1)", 7);
        fault(1, "y:(v=1);y:2", 7);
        fault(1, "y:(v)+1", 4);
        fault(1, "y:(v+1)", 6);
        fault(1, "y:(v=1)+1", 7);
        fault(1, "y:(", 3);
        fault(1, "y:()", 3);
        whole(1, "y: ! v = 1 ? 1");
        fault(1, "y: ( v ) ? 1", 7);
        Edge.says("SUM, one of = < >, SUM");
        for (char one : "=<>".toCharArray()) {
            whole(1, "y:v" + one + "1?1");
            fault(1, "y:v" + one + "?1", 4);
            fault(1, "y:" + one + "1?1", 2);
            fault(1, "y:v" + one, 4);
            fault(1, "y:v" + one + "1", 5);
            fault(1, "y:v" + one + "1" + one + "2?1", 5);
            fault(1, "y:v" + one + one + "2?1", 4);
            fault(1, "y:v" + one + "!1?1", 4);
            fault(1, "y:v" + one + "(1)?1", 4);
            fault(1, "y:[v" + one + "1]?1", 4);
        }
        Edge.says("TRUTHS with | between; UNITS with & between");
        for (char one : "|&".toCharArray()) {
            whole(1, "y:v=1" + one + "k=1?1");
            whole(1, "y:v=1" + one + "!k=1" + one + "(s=1)?1");
            fault(1, "y:v=1" + one + "?1", 6);
            fault(1, "y:v=1" + one, 6);
            fault(1, "y:" + one + "v=1?1", 2);
            fault(1, "y:v" + one + "k=1?1", 3);
            fault(1, "y:v=1" + one + "k?1", 7);
            fault(1, "y:v=1" + one + one + "k=1?1", 6);
        }
        Edge.says("( CONDITION ), [ SUM ]");
        fault(1, "y:(v=1]?1", 6);
        fault(1, "y:[v)", 4);
        fault(1, "y:v=1)?1", 5);
        fault(1, "y:v]", 3);
        fault(1, "y:[]", 3);
        fault(1, "y:[v", 4);
        fault(1, "y:((v=1)?1", 8);
        fault(1, "y:[(v=1)]", 3);
        fault(1, "y:[!v=1]", 3);
    }

    private static void nested() {
        Edge.says("At most six of ( [ ! within one another; a seventh of ( [ ! in a LAW at it");
        for (int many = 5; many <= 7; many++) {
            String inner = many == 7 ? "seven" : null;
            String round = "y:" + Edge.times("(", many) + "v=1" + Edge.times(")", many) + "?1";
            String square = "y:" + Edge.times("[", many) + "v" + Edge.times("]", many);
            String behind = "y:v=1?" + Edge.times("[", many) + "v" + Edge.times("]", many);
            String right = "y:v=" + Edge.times("[", many) + "v" + Edge.times("]", many) + "?1";
            String not = "y:" + Edge.times("!", many) + "v=1?1";
            if (inner == null) {
                for (String text : new String[] {round, square, behind, right, not}) {
                    whole(1, text);
                }
            } else {
                fault(1, round, 8);
                fault(1, square, 8);
                fault(1, behind, 12);
                fault(1, right, 10);
                fault(1, not, 8);
            }
        }
        Edge.says("( [ ! are counted together");
        whole(1, "y:(!(!([v]=1)))?1");
        fault(1, "y:(!(!([[v]]=1)))?1", 8);
        whole(1, "y:!!!(([1]=1))?1");
        fault(1, "y:!!!(([1+[1]]=1))?1", 10);
        fault(1, "y:!!!(((!v=1)))?1", 8);
        fault(1, "y:(((!!!(v=1))))?1", 8);
        fault(1, "y:(((!!!v=[1])))?1", 10);
        fault(1, "y:[[[[[[ [1]]]]]]]", 9);
        Edge.says("within one another, not side by side");
        whole(1, "y:" + Edge.times("!v=1&", 8) + "(v=1)?1");
        whole(1, "y:" + Edge.times("!!!!!!v=1|", 3) + "v=1?1");
        whole(1, "y:" + Edge.times("([[v]]=1)|", 8) + "v=1?1");
        whole(1, "y:" + Edge.times("[1]+", 40) + "[1]");
        whole(1, "y:((((((v=1))))))&((((((v=1))))))?[[[[[[1]]]]]]*[[[[[[1]]]]]];y:[[[[[[1]]]]]]");
    }

    private static void lawBlanks() {
        Edge.says("Blanks (32) may stand between all signs of these, not within numbers");
        whole(1, " y : ! ( v = 12 | k < [ 3 + s ] ) & i > 1 ? [ v * 2 ] / 3 ; y : 4 ");
        fault(1, "y:1 2", 4);
        fault(1, "y:v=1 2?1", 6);
        fault(1, "y :\t1", 3);
        whole(1, Edge.times(" ", 237) + "y:1");
        whole(1, "y:" + Edge.times(" ", 237) + "1");
    }

    private static void lawTooEarly() {
        Edge.says("the length, if it ends too early");
        String text = "y:!(v+1=[k*2]|s<d)&n>p?c-i/2;y:12";
        String ends = " 24 26 28 32 ";
        for (int bytes = 0; bytes < text.length(); bytes++) {
            String ahead = text.substring(0, bytes);
            if (ends.contains(" " + bytes + " ")) {
                whole(1, ahead);
            } else {
                fault(1, ahead, bytes);
            }
        }
        whole(1, text);
        Edge.says("the first byte at which no such TEXT can go on");
        for (int bytes = 0; bytes <= text.length(); bytes++) {
            fault(1, text.substring(0, bytes) + "~" + text.substring(bytes), bytes);
        }
    }

    private static void beginnings() {
        Edge.says("BEGINNINGS are TEXTS: digits, 1 to 12 (a row of signs 0 .. 9)");
        fault(2, "", 0);
        fault(2, "  ", 2);
        whole(2, "0");
        Edge.due("sign(0, -1)", x.sign(0, -1), 1);
        Edge.due("sign(0, 0)", x.sign(0, 0), 0);
        whole(2, "98765432101");
        Edge.due("sign(0, -1)", x.sign(0, -1), 11);
        whole(2, "987654321012");
        Edge.due("sign(0, -1)", x.sign(0, -1), 12);
        Edge.due("sign(0, 0)", x.sign(0, 0), 9);
        Edge.due("sign(0, 11)", x.sign(0, 11), 2);
        whole(2, " 9 8 7 6 5 4 3 2 1 0 1 2 ");
        Edge.due("sign(0, -1)", x.sign(0, -1), 12);
        whole(2, Edge.times(" ", 228) + "987654321012");
        Edge.due("sign(0, 11)", x.sign(0, 11), 2);
        Edge.says("a 13th digit of a BEGINNING at it");
        fault(2, Edge.times(" ", 227) + "9876543210123", 239);
        fault(2, "9876543210123", 12);
        fault(2, " 9 8 7 6 5 4 3 2 1 0 1 2 3 ", 25);
        fault(2, Edge.times("0", 240), 12);
        fault(2, "987654321012 x", 13);
        Edge.says("the first byte at which no such TEXT can go on");
        for (char one = 1; one <= 255; one++) {
            if (one != ' ' && (one < '0' || one > '9')) {
                fault(2, "" + one, 0);
                fault(2, "12" + one + "3", 2);
            }
        }
    }

    private static void sorts() {
        Edge.says("fault: -2: no such sort.");
        for (int sort : new int[] {-1, 3, Integer.MIN_VALUE, Integer.MAX_VALUE}) {
            Edge.refused("fault(" + sort + ")", Edge::none, o -> o.fault(sort), -2);
            Edge.refused("fault(" + sort + ") amid", Edge::amid, o -> o.fault(sort), -2);
        }
        Edge.due("fault(3) of an empty TAPE", new HalfDone().fault(3), -2);
        Edge.says("fault: the TAPE as a WILL (0), a LAW (1), a BEGINNING (2). NONE: none.");
        String[] texts = {"t:a1;h", "y:1", "1"};
        int[][] want = {{-1, 0, 0}, {0, -1, 0}, {0, 0, -1}};
        for (int k = 0; k < 3; k++) {
            on(texts[k]);
            for (int sort = 0; sort < 3; sort++) {
                Edge.due("fault(" + sort + ") of '" + texts[k] + "'", x.fault(sort), want[k][sort]);
            }
        }
        Edge.says("text: NONE: a FAULT, no such sort");
        for (int sort : new int[] {-1, 3, Integer.MIN_VALUE, Integer.MAX_VALUE}) {
            Edge.refused("text(" + sort + ")", Edge::none, o -> o.text(sort), -1);
            Edge.refused("text(" + sort + ") amid", Edge::amid, o -> o.text(sort), -1);
        }
        String[] wrong = {"t:a1;hx", "y:1;", "12a"};
        for (int sort = 0; sort <= 2; sort++) {
            int of = sort;
            Edge.refused("text(" + of + ") of " + wrong[of], () -> amidWith(wrong[of]), o -> o.text(of), -1);
            Edge.refused("text(" + of + ") of nothing", () -> amidWith(""), o -> o.text(of), -1);
        }
        Edge.refused("text(0) of more DONE", () -> amidWith("td2:a1;h"), o -> o.text(0), -1);
    }

    private static HalfDone amidWith(String tape) {
        HalfDone one = Edge.amid();
        Check.tape(one, tape);
        return one;
    }

    private static HalfDone fullWith(String tape) {
        HalfDone one = Edge.full();
        Check.tape(one, tape);
        return one;
    }

    private static void soMany() {
        Edge.says("LAWS (6 at most); text: NONE: there are so many");
        HalfDone o = new HalfDone();
        for (int k = 0; k < 6; k++) {
            Edge.due("LAW " + k, Check.put(o, 1, "y:" + k), k);
        }
        Edge.due("a seventh", Check.put(o, 1, "y:6"), -1);
        Edge.due("count(3)", o.count(3), 6);
        Edge.due("fault(1) of it", o.fault(1), -1);
        Edge.due("BEGINNINGS have room still", Check.put(o, 2, "1"), 0);
        Edge.refused("a seventh LAW", () -> fullWith("y:1"), one -> one.text(1), -1);
        Edge.says("BEGINNINGS (4 at most); text: NONE: there are so many");
        for (int k = 1; k < 4; k++) {
            Edge.due("BEGINNING " + k, Check.put(o, 2, "1"), k);
        }
        Edge.due("a fifth", Check.put(o, 2, "1"), -1);
        Edge.due("count(4)", o.count(4), 4);
        Edge.due("fault(2) of it", o.fault(2), -1);
        Edge.refused("a fifth BEGINNING", () -> fullWith("9"), one -> one.text(2), -1);
        Edge.due("a WILL is put all the same", Check.put(o, 0, "t:a1;h"), 1);
        Edge.due("and another", Check.put(o, 0, "t:a1;t:a1;h"), 2);
    }

    private static void anotherWill() {
        Edge.says("all that was of another one is gone but LAWS, BEGINNINGS; none holds; DAY 0");
        HalfDone o = Edge.full();
        Edge.due("how many THINGS", Check.put(o, 0, "t:a2;h"), 1);
        int[] want = {1, 1, 0, 6, 4, 0, 0, -1, 0, 0, 0, 0, 0};
        for (int what = 0; what <= 12; what++) {
            Edge.due("count(" + what + ")", o.count(what), want[what]);
        }
        Edge.due("thing(0, 4)", Check.thing(o, 0, 4), -1);
        Edge.due("thing(1, 0)", Check.thing(o, 1, 0), Check.THROWN);
        Edge.due("step(0, 1, 0)", o.step(0, 1, 0), -1);
        Edge.due("heir(0, 0)", o.heir(0, 0), 0);
        Edge.due("heir(1, 0)", o.heir(1, 0), -1);
        Edge.due("tools(0)", o.tools(0), 0);
        Edge.due("stood(0)", o.stood(0), 3);
        Edge.due("undo()", o.undo(), -1);
        Edge.due("back()", o.back(), -1);
        Edge.due("wish(0, 0)", o.wish(0, 0), 10);
        Edge.due("sign(3, 11)", o.sign(3, 11), 3);
        Edge.due("ends(3, 5, 1, 0)", o.ends(3, 5, 1, 0), 10);
        HalfDone late = Edge.late();
        Check.put(late, 0, "t:a1;h");
        Edge.due("the DAY", late.count(6), 0);
        Edge.due("days(1)", late.days(1), 1);
    }
}
