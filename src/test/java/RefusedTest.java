import java.util.Random;

/** What is refused answers as told and changes nothing; nothing but what the document says is ever thrown. */
final class RefusedTest {
    private static final int[] WRONG = {Integer.MIN_VALUE, -1000000, -2, -1, 0, 1, 2, 3, 4, 5, 6, 8, 9, 10, 13, 64, 99,
        100, 999, 10000, 1000000000, Integer.MAX_VALUE};

    private final Random random;
    private final HalfDone x = new HalfDone();

    private RefusedTest(long seed) {
        random = new Random(seed);
    }

    public static void main(String[] args) {
        for (int run = 0; run < 150; run++) {
            new RefusedTest(run).run();
        }
        twice();
        Check.finish();
    }

    private int any() {
        return random.nextInt(3) > 0 ? random.nextInt(7) - 1 : WRONG[random.nextInt(WRONG.length)];
    }

    private void run() {
        Texts texts = new Texts(random);
        if (random.nextInt(5) > 0) {
            Check.put(x, 0, texts.will(6, 6, 8));
        }
        for (int k = random.nextInt(7); k > 0; k--) {
            Check.put(x, 1, texts.law());
            Check.put(x, 2, texts.beginning());
        }
        Check.tape(x, random.nextBoolean() ? texts.spoilt(texts.will(6, 6, 8), "tvh;") : texts.law());
        for (int call = 0; call < 120; call++) {
            String before = Check.dump(x);
            int sort = random.nextInt(40);
            boolean asks = sort < 28;
            boolean refused = asks ? ask(sort) : change(sort);
            if (asks || refused) {
                Check.due("call " + sort + " changes nothing", Check.dump(x).equals(before), true);
            }
        }
    }

    /** Calls that change nothing at all. */
    private boolean ask(int sort) {
        int a = any();
        int b = any();
        int c = any();
        switch (sort) {
            case 0 -> x.fault(a);
            case 1 -> Check.thing(x, a, b);
            case 2 -> x.step(a, b, c);
            case 3 -> x.heir(a, b);
            case 4 -> x.tools(a);
            case 5 -> x.takes(a, b, c);
            case 6 -> x.alone(a, b);
            case 7 -> x.who(a);
            case 8 -> x.stuck(a);
            case 9 -> x.team(a, b);
            case 10 -> x.helpers(a);
            case 11 -> x.deal(a);
            case 12 -> x.best(a, b);
            case 13 -> x.learn(a);
            case 14 -> x.begin(a, b);
            case 15 -> x.spite(a, b);
            case 16 -> x.wish(a, b);
            case 17 -> x.rests(a);
            case 18 -> x.gains(a, b);
            case 19 -> x.ends(a, b, c, any());
            case 20 -> x.shortest(a, b, c);
            case 21 -> x.judged(a, b, c);
            case 22 -> x.dearest(a, b, c);
            case 23 -> x.stood(a);
            case 24 -> x.sold();
            case 25 -> x.sign(a, b);
            case 26 -> x.image();
            default -> x.count(a);
        }
        return true;
    }

    /** Calls that change something, unless they are refused. */
    private boolean change(int sort) {
        int a = any();
        int b = any();
        return switch (sort) {
            case 28 -> x.feed(a, b, random.nextInt(), random.nextInt(), 0) == -1;
            case 29 -> !x.end(a);
            case 30 -> x.text(random.nextInt(6) - 1) == -1;
            case 31 -> !x.law(a);
            case 32, 33 -> x.give(a, b) == -1;
            case 34 -> x.teach(a, b) == -1;
            case 35 -> x.days(a) == -1;
            case 36 -> x.generation(a) == -1;
            case 37 -> x.undo() == -1;
            case 38 -> x.ended(a, b, any()) == -1;
            default -> x.back() == -1;
        };
    }

    /** The same calls give the same answers, on two objects side by side. */
    private static void twice() {
        HalfDone one = Check.with("tv9r9:a2b3;tv5r8:b1;tv7r7:a1a1;ha3b2;hb4a1;ga");
        HalfDone other = Check.with("tv1r9:a2b3;ha3b2");
        String was = Check.dump(other);
        one.give(0, 0);
        one.days(2);
        one.deal(0);
        one.begin(5, 0);
        one.rests(0);
        Check.due("one object does not change another", Check.dump(other).equals(was), true);
    }
}
