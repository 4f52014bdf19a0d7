import java.util.NoSuchElementException;

/** What the tests share: texts onto the tape, and answers against those that are due. */
final class Check {
    /** thing() throws; no answer of it is so small. */
    static final long THROWN = Long.MIN_VALUE;

    private static int checks = 0;
    private static int wrong = 0;

    private Check() {
    }

    static void due(String call, long got, long want) {
        checks++;
        if (got != want) {
            wrong++;
            if (wrong <= 50) {
                System.out.println(call + " answered " + said(got) + ", due is " + said(want));
            }
        }
    }

    static void due(String call, boolean got, boolean want) {
        due(call, got ? 1 : 0, want ? 1 : 0);
    }

    private static String said(long answer) {
        return answer == THROWN ? "throws.NoSuchElementException" : Long.toString(answer);
    }

    static void finish() {
        System.out.println(checks + " answers looked at, " + wrong + " not as due");
        if (wrong != 0 || checks == 0) {
            System.exit(1);
        }
    }

    static int wrongs() {
        return wrong;
    }

    /** The numbers by which feed() brings these bytes, five each. */
    static int[] words(String text) {
        int[] words = new int[(text.length() + 19) / 20 * 5];
        for (int k = 0; k < text.length(); k++) {
            words[k / 4] |= (text.charAt(k) & 255) << (24 - 8 * (k % 4));
        }
        return words;
    }

    /** The TAPE is this text alone. */
    static void tape(HalfDone x, String text) {
        x.end(0);
        int[] w = words(text);
        for (int k = 0; k < w.length; k += 5) {
            x.feed(w[k], w[k + 1], w[k + 2], w[k + 3], w[k + 4]);
        }
    }

    static int put(HalfDone x, int sort, String text) {
        tape(x, text);
        return x.text(sort);
    }

    static HalfDone with(String will) {
        HalfDone x = new HalfDone();
        if (put(x, 0, will) < 1) {
            due("text(0) of " + will, NO, 1);
        }
        return x;
    }

    private static final long NO = -1;

    static long thing(HalfDone x, int thing, int what) {
        try {
            return x.thing(thing, what);
        } catch (NoSuchElementException e) {
            return THROWN;
        }
    }

    /** All that calls can tell of an object without changing it: two that are alike here are alike. */
    static String dump(HalfDone x) {
        StringBuilder all = new StringBuilder();
        for (int what = 0; what <= 12; what++) {
            all.append(x.count(what)).append(' ');
        }
        for (int thing = 0; thing < 6; thing++) {
            for (int what = 0; what <= 8; what++) {
                all.append(thing(x, thing, what)).append(' ');
            }
            for (int step = 0; step < 8; step++) {
                all.append(x.step(thing, step, 0)).append(x.step(thing, step, 1)).append(' ');
            }
            all.append(x.stood(thing)).append(' ');
        }
        for (int heir = 0; heir < 6; heir++) {
            for (int what = 0; what <= 6; what++) {
                all.append(x.heir(heir, what)).append(' ');
            }
            all.append(x.wish(heir, 0)).append(' ');
        }
        for (int k = 0; k < 5; k++) {
            all.append(x.tools(k)).append(' ').append(x.sign(k, -1)).append(' ').append(x.sign(k, 0)).append(' ');
        }
        all.append(x.fault(0)).append(' ').append(x.fault(1)).append(' ').append(x.fault(2));
        return all.toString();
    }
}
