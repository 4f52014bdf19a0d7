import java.util.List;
import java.util.function.Function;
import java.util.function.Supplier;
import java.util.function.ToLongFunction;

/** Sentences of the document that name a bound, one at a time; refused calls, beside an object that was never asked. */
final class Edge {
    /** What a call answers with any of these in the place of an argument that is out of bounds. */
    static final int[] FAR = {Integer.MIN_VALUE, -1000000, 1000000, Integer.MAX_VALUE};

    private static final String LONG_ROW = "t:a9a9a9a9a9a9a9a9";
    private static final List<Function<HalfDone, String>> TALES = List.of(Edge::seen, Edge::past, Edge::written);

    private static String sentence = "";

    private Edge() {
    }

    /** The words of the document that the answers below are due by. */
    static void says(String words) {
        sentence = words;
    }

    static void due(String call, long got, long want) {
        Check.due("[" + sentence + "] " + call, got, want);
    }

    static void due(String call, boolean got, boolean want) {
        Check.due("[" + sentence + "] " + call, got, want);
    }

    /** Refused; and whatever is asked then of two objects, of which one alone was asked this, they answer alike. */
    static void refused(String call, Supplier<HalfDone> made, ToLongFunction<HalfDone> asked, long want) {
        for (Function<HalfDone, String> tale : TALES) {
            HalfDone x = made.get();
            HalfDone other = made.get();
            due(call, asked.applyAsLong(x), want);
            String told = tale.apply(x);
            String due = tale.apply(other);
            due(call + " changes nothing, " + told + " beside " + due, told.equals(due), true);
        }
    }

    static String times(String text, int many) {
        return text.repeat(many);
    }

    /** So many of a CLAUSE, with ; behind each. */
    static String clauses(String clause, int many) {
        return (clause + ";").repeat(many);
    }

    // ---- objects ----

    /** No WILL, but LAWS, BEGINNINGS and bytes on the TAPE. */
    static HalfDone none() {
        HalfDone x = new HalfDone();
        Check.put(x, 1, "y:c=0?1;y:p");
        Check.put(x, 1, "y:v+1");
        Check.put(x, 2, "12");
        Check.tape(x, "34 5");
        return x;
    }

    /**
     * In the middle of all: two THINGS to be done and held, one FINISHED, one ROTTEN; a LAW holds; five ACTS, an IMAGE
     * behind the third of them, two ENDINGS, bytes on the TAPE.
     */
    static HalfDone amid() {
        HalfDone x = Check.with("tv20r40:a2b3;tv5r9d1:a1c3;tv7d2:a1a1;tr1:c9;ha3b2k1;hc3a6k2;ga");
        Check.put(x, 1, "y:v>6?v+k;y:s");
        Check.put(x, 1, "y:c=0?1;y:p");
        Check.put(x, 2, "12");
        Check.put(x, 2, "5");
        x.law(0);
        x.give(0, 0);
        x.give(1, 1);
        x.days(1);
        x.image();
        x.teach(1, 1);
        x.days(1);
        x.ended(0, 0, 5);
        x.ended(1, 1, 3);
        Check.tape(x, "34 5");
        return x;
    }

    /** As many of all as there may be: THINGS, HEIRS, TOOLS, LAWS, BEGINNINGS, ENDINGS, ACTS, bytes. */
    static HalfDone full() {
        HalfDone x = Check.with(clauses(LONG_ROW, 6) + clauses("ha8b9c9d9e9", 6) + "ga;gb;gc;gc");
        for (int k = 0; k < 6; k++) {
            Check.put(x, 1, "y:c=" + k + "|c=0?1");
        }
        for (int k = 0; k < 4; k++) {
            Check.put(x, 2, "12345678901" + k);
        }
        for (int k = 0; k < 12; k++) {
            x.ended(k % 6, k / 2, 24 + k % 2);
        }
        x.law(5);
        x.image();
        for (int k = 0; k < 40; k++) {
            x.give(k % 6, (k + k / 6) % 6);
        }
        Check.tape(x, times("1", 240));
        return x;
    }

    /** The last DAY there is. */
    static HalfDone late() {
        HalfDone x = Check.with("tv8r99:a9a9a9a9;td1:a1;ha9k3;h");
        for (int k = 0; k < 10; k++) {
            x.days(99);
        }
        x.days(9);
        return x;
    }

    // ---- what is told of them, each in far fewer than 512 calls ----

    /** What an object answers as it is. */
    private static String seen(HalfDone x) {
        StringBuilder all = new StringBuilder();
        for (int what = 0; what <= 12; what++) {
            add(all, x.count(what));
        }
        for (int thing = 0; thing < 6; thing++) {
            for (int what = 0; what <= 8; what++) {
                add(all, Check.thing(x, thing, what));
            }
            add(all, x.step(thing, 0, 0), x.step(thing, 1, 1), x.stood(thing), x.who(thing), x.stuck(thing));
            add(all, x.team(thing, 3), x.helpers(thing), x.wish(0, thing), x.alone(0, thing));
        }
        for (int heir = 0; heir < 6; heir++) {
            for (int what = 0; what <= 6; what++) {
                add(all, x.heir(heir, what));
            }
            add(all, x.wish(heir, 0), x.gains(9, heir), x.spite(heir, 0), x.spite(heir, 1), x.best(heir, 3));
        }
        for (int k = 0; k < 5; k++) {
            add(all, x.tools(k), x.sign(k, -1), x.sign(k, 0), x.sign(k, 11), x.judged(k, 1, 0));
        }
        add(all, x.fault(0), x.fault(1), x.fault(2), x.deal(0), x.deal(1), x.learn(0), x.begin(2, 0), x.sold());
        add(all, x.rests(-1), x.rests(0), x.ends(0, 0, 2, -1), x.ends(1, 1, 1, 0), x.dearest(0, 2, 0));
        return all.toString();
    }

    /** How it was: ACTS undone one by one, then what the IMAGE kept. */
    private static String past(HalfDone x) {
        StringBuilder all = new StringBuilder();
        int left = 0;
        for (int k = 0; k <= 41 && left >= 0; k++) {
            left = x.undo();
            add(all, left);
            brief(all, x);
        }
        add(all, x.back());
        brief(all, x);
        add(all, x.undo());
        return all.toString();
    }

    private static void brief(StringBuilder all, HalfDone x) {
        add(all, x.count(6), x.heir(0, 6), x.heir(1, 6), x.heir(1, 1), Check.thing(x, 0, 6), Check.thing(x, 0, 5));
    }

    /** What stands on the TAPE, byte by byte, and which numbers the next LAW and BEGINNING get. */
    private static String written(HalfDone x) {
        StringBuilder all = new StringBuilder();
        add(all, x.feed(0x3b000000, 0, 0, 0, 0), x.count(5), x.fault(0), x.fault(1), x.fault(2));
        add(all, x.end(12) ? 1 : 0, x.end(4) ? 1 : 0);
        int number = x.text(2);
        add(all, number, x.count(4), x.sign(number, -1));
        for (int i = 0; i < 12; i++) {
            add(all, x.sign(number, i));
        }
        add(all, Check.put(x, 1, "y:1"), Check.put(x, 2, "1"), x.ended(0, 0, 1), x.give(0, -1), x.days(1));
        add(all, x.generation(7), x.teach(0, 0), x.undo(), x.law(1) ? 1 : 0, x.wish(0, 0), x.image(), x.back());
        return all.toString();
    }

    private static void add(StringBuilder all, long... answers) {
        for (long one : answers) {
            all.append(one == Check.THROWN ? "x" : Long.toString(one)).append(' ');
        }
    }
}
