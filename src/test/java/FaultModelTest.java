import java.util.Random;

/** Promise 4, and 5 where it refuses: FAULTS of texts by chance against those that Faults finds. */
final class FaultModelTest {
    private static final String[] SIGNS = {"tthg;;:vrdkabcdef0123456789 x", "yy::??;!!(()[])&|=<>+-*/vksdnpci0123456789 z",
        "0123456789 a"};

    public static void main(String[] args) {
        Random random = new Random(7);
        Texts texts = new Texts(random);
        HalfDone x = new HalfDone();
        for (int k = 0; k < 4000; k++) {
            int sort = random.nextInt(9) == 0 ? 2 : random.nextInt(2);
            String text = sort == 0 ? texts.will(6, 6, 8) : sort == 1 ? texts.law() : texts.beginning();
            text = random.nextInt(3) == 0 ? texts.blanks(text) : text;
            for (int worse = random.nextInt(4); worse > 0; worse--) {
                text = texts.spoilt(text, SIGNS[sort]);
            }
            Check.tape(x, text);
            Check.due("fault(" + sort + ") of '" + text + "'", x.fault(sort), Faults.of(sort, text));
        }
        for (int k = 0; k < 8000; k++) {
            int sort = random.nextInt(3);
            StringBuilder text = new StringBuilder(sort == 1 ? "y:" : "");
            for (int n = random.nextInt(12); n > 0; n--) {
                text.append(SIGNS[sort].charAt(random.nextInt(SIGNS[sort].length())));
            }
            Check.tape(x, text.toString());
            Check.due("fault(" + sort + ") of '" + text + "'", x.fault(sort), Faults.of(sort, text.toString()));
        }
        Check.finish();
    }
}
