import java.util.Random;

/** All promises: runs of calls by chance, each answer against that of the Model. */
final class ModelTest {
    private final Random random;
    private final Texts texts;
    private final HalfDone x = new HalfDone();
    private final Model m = new Model();
    private final int run;

    private ModelTest(int run) {
        this.run = run;
        random = new Random(run);
        texts = new Texts(random);
    }

    public static void main(String[] args) {
        int runs = args.length > 0 ? Integer.parseInt(args[0]) : 250;
        int first = args.length > 1 ? Integer.parseInt(args[1]) : 0;
        for (int run = first; run < first + runs && Check.wrongs() == 0; run++) {
            new ModelTest(run).calls();
        }
        Check.finish();
    }

    private void due(String call, long got, long want) {
        Check.due("run " + run + ": " + call, got, want);
    }

    private void due(String call, boolean got, boolean want) {
        due(call, got ? 1 : 0, want ? 1 : 0);
    }

    /** Mostly one of so many; now and then one out of bounds. */
    private int some(int many) {
        int sort = random.nextInt(25);
        if (sort == 0) {
            return -1 - random.nextInt(2);
        }
        if (sort == 1) {
            return many + random.nextInt(2);
        }
        if (sort == 2 && random.nextInt(8) == 0) {
            return random.nextBoolean() ? Integer.MIN_VALUE : Integer.MAX_VALUE;
        }
        return random.nextInt(Math.max(1, many));
    }

    private int aThing() {
        return some(m.now.things.size());
    }

    private int anHeir() {
        return some(m.now.skill.length);
    }

    private void put(int sort, String text) {
        due("end(0)", x.end(0), m.end(0));
        int[] w = Check.words(text);
        for (int k = 0; k < w.length; k += 5) {
            due("feed of '" + text + "'", x.feed(w[k], w[k + 1], w[k + 2], w[k + 3], w[k + 4]),
                    m.feed(w[k], w[k + 1], w[k + 2], w[k + 3], w[k + 4]));
        }
        due("text(" + sort + ") of '" + text + "'", x.text(sort), m.text(sort));
    }

    private void calls() {
        if (random.nextInt(10) > 0) {
            newWill();
        }
        int calls = 60 + random.nextInt(200);
        for (int k = 0; k < calls && Check.wrongs() == 0; k++) {
            int sort = random.nextInt(100);
            if (sort < 1) {
                newWill();
            } else if (sort < 6) {
                put(1, texts.blanks(texts.law()));
            } else if (sort < 8) {
                put(2, texts.beginning());
            } else if (sort < 10) {
                wild();
            } else if (sort < 36) {
                act();
            } else if (sort < 56) {
                ask();
            } else if (sort < 72) {
                askOfTime();
            } else if (sort < 88) {
                askOfDeals();
            } else {
                askOfEnds();
            }
        }
    }

    private void newWill() {
        boolean large = random.nextInt(8) == 0;
        put(0, texts.blanks(large ? texts.will(6, 6, 8) : texts.will(4, 4, 5)));
    }

    private void wild() {
        int a = random.nextInt(3) == 0 ? random.nextInt() : 0;
        int e = random.nextInt();
        due("feed", x.feed(a, 0, 0x00410042, 0, e), m.feed(a, 0, 0x00410042, 0, e));
        int n = some(m.tape.length());
        due("end(" + n + ")", x.end(n), m.end(n));
        int sort = some(3);
        due("fault(" + sort + ")", x.fault(sort), m.fault(sort));
        due("text(" + sort + ")", x.text(sort), m.text(sort));
    }

    private void act() {
        int thing = aThing();
        int heir = anHeir();
        switch (random.nextInt(9)) {
            case 0, 1, 2 -> due("give(" + thing + ", " + heir + ")", x.give(thing, heir), m.give(thing, heir));
            case 3 -> {
                int trade = some(5);
                due("teach(" + heir + ", " + trade + ")", x.teach(heir, trade), m.teach(heir, trade));
            }
            case 4, 5 -> {
                int n = random.nextInt(12) == 0 ? some(102) : 1 + random.nextInt(3);
                due("days(" + n + ")", x.days(n), m.days(n));
            }
            case 6 -> {
                if (random.nextInt(4) == 0) {
                    long seed = random.nextLong();
                    due("generation(" + seed + ")", x.generation(seed), m.generation(seed));
                }
            }
            case 7 -> {
                for (int k = random.nextInt(5); k > 0; k--) {
                    due("undo()", x.undo(), m.undo());
                }
            }
            default -> {
                if (random.nextInt(3) == 0) {
                    due("back()", x.back(), m.back());
                } else {
                    due("image()", x.image(), m.image());
                }
            }
        }
    }

    private void ask() {
        int thing = aThing();
        int heir = anHeir();
        int what = some(9);
        due("thing(" + thing + ", " + what + ")", Check.thing(x, thing, what), m.thing(thing, what));
        what = some(7);
        due("heir(" + heir + ", " + what + ")", x.heir(heir, what), m.heir(heir, what));
        what = some(13);
        due("count(" + what + ")", x.count(what), m.count(what));
        int step = some(8);
        what = some(2);
        due("step(" + thing + ", " + step + ", " + what + ")", x.step(thing, step, what), m.step(thing, step, what));
        what = some(5);
        due("tools(" + what + ")", x.tools(what), m.tools(what));
        if (random.nextInt(3) == 0) {
            what = some(m.laws.size());
            due("law(" + what + ")", x.law(what), m.law(what));
        }
        if (random.nextInt(6) == 0) {
            what = random.nextInt(3) == 0 ? some(101) : Math.max(m.alone(Math.max(0, heir), Math.max(0, thing)), 1);
            due("ended(" + thing + ", " + heir + ", " + what + ")", x.ended(thing, heir, what), m.ended(thing, heir, what));
        }
        due("stood(" + thing + ")", x.stood(thing), m.stood(thing));
    }

    private void askOfTime() {
        int thing = aThing();
        int heir = anHeir();
        int step = some(8);
        due("takes(" + heir + ", " + thing + ", " + step + ")", x.takes(heir, thing, step), m.takes(heir, thing, step));
        due("alone(" + heir + ", " + thing + ")", x.alone(heir, thing), m.alone(heir, thing));
        due("who(" + thing + ")", x.who(thing), m.who(thing));
        due("stuck(" + thing + ")", x.stuck(thing), m.stuck(thing));
        int set = some(1 << m.now.skill.length);
        due("team(" + thing + ", " + set + ")", x.team(thing, set), m.team(thing, set));
        due("helpers(" + thing + ")", x.helpers(thing), m.helpers(thing));
        due("sold()", x.sold(), m.sold());
        due("wish(" + heir + ", " + thing + ")", x.wish(heir, thing), m.wish(heir, thing));
    }

    private void askOfDeals() {
        int heir = anHeir();
        int set = some(1 << m.now.things.size());
        due("best(" + heir + ", " + set + ")", x.best(heir, set), m.best(heir, set));
        int what = some(2);
        due("spite(" + heir + ", " + what + ")", x.spite(heir, what), m.spite(heir, what));
        what = some(2);
        boolean small = m.now.things.size() * m.now.skill.length <= 16;
        due("deal(" + what + ")", x.deal(what), m.deal(what));
        if (small || random.nextInt(20) == 0) {
            due("learn(" + what + ")", x.learn(what), m.learn(what));
        }
        int n = some(small && random.nextInt(4) == 0 ? 13 : small ? 5 : 2);
        due("begin(" + n + ", " + what + ")", x.begin(n, what), m.begin(n, what));
        int i = random.nextInt(3) == 0 ? -1 : some(8);
        if (random.nextInt(m.now.skill.length < 4 ? 1 : 6) == 0) {
            due("rests(" + i + ")", x.rests(i), m.rests(i));
        }
        int row = 0;
        for (int h = 0; h < m.now.skill.length && h < 5; h++) {
            row = row * 10 + (random.nextInt(3) == 0 ? 9 : Math.floorMod(aThing(), 10));
        }
        row = random.nextInt(12) == 0 ? some(100000) : row;
        due("gains(" + row + ", " + heir + ")", x.gains(row, heir), m.gains(row, heir));
    }

    private void askOfEnds() {
        int b = some(m.beginnings.size());
        int law = some(m.laws.size());
        int n = some(random.nextInt(10) == 0 ? 5 : 3);
        int i = random.nextInt(4) == 0 ? -1 : some(12);
        due("ends(" + b + ", " + law + ", " + n + ", " + i + ")", x.ends(b, law, n, i), m.ends(b, law, n, i));
        due("shortest(" + b + ", " + law + ", " + n + ")", x.shortest(b, law, n), m.shortest(b, law, n));
        int signs = some(5);
        int digits = some(signs < 1 || signs > 4 ? 1 : (int) Math.pow(10, signs));
        digits = random.nextBoolean() ? digits / 10 * 10 : digits;
        due("judged(" + b + ", " + signs + ", " + digits + ")", x.judged(b, signs, digits), m.judged(b, signs, digits));
        int what = some(2);
        due("dearest(" + b + ", " + n + ", " + what + ")", x.dearest(b, n, what), m.dearest(b, n, what));
        i = random.nextInt(4) == 0 ? -1 : some(12);
        due("sign(" + b + ", " + i + ")", x.sign(b, i), m.sign(b, i));
    }
}
