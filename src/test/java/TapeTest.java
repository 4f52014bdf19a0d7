/** Promises 1 (a new object), 2 (feed) and 3 (end). */
final class TapeTest {
    public static void main(String[] args) {
        newObject();
        feed();
        end();
        Check.finish();
    }

    private static void newObject() {
        HalfDone x = new HalfDone();
        for (int what = 0; what <= 12; what++) {
            Check.due("count(" + what + ")", x.count(what), what == 7 ? -1 : 0);
        }
        Check.due("thing(0, 0)", Check.thing(x, 0, 0), Check.THROWN);
        Check.due("step(0, 0, 0)", x.step(0, 0, 0), -1);
        Check.due("heir(0, 0)", x.heir(0, 0), -1);
        Check.due("tools(0)", x.tools(0), -1);
        Check.due("law(-1)", x.law(-1), false);
        Check.due("takes(0, 0, 0)", x.takes(0, 0, 0), -1);
        Check.due("alone(0, 0)", x.alone(0, 0), -1);
        Check.due("who(0)", x.who(0), -1);
        Check.due("stuck(0)", x.stuck(0), -1);
        Check.due("team(0, 1)", x.team(0, 1), -1);
        Check.due("helpers(0)", x.helpers(0), -1);
        Check.due("give(0, 0)", x.give(0, 0), -1);
        Check.due("teach(0, 0)", x.teach(0, 0), -1);
        Check.due("days(1)", x.days(1), -1);
        Check.due("generation(1)", x.generation(1), -1);
        Check.due("undo()", x.undo(), -1);
        Check.due("deal(0)", x.deal(0), -1);
        Check.due("best(0, 0)", x.best(0, 0), -1);
        Check.due("learn(0)", x.learn(0), -1);
        Check.due("begin(0, 0)", x.begin(0, 0), -1);
        Check.due("spite(0, 0)", x.spite(0, 0), -1);
        Check.due("wish(0, 0)", x.wish(0, 0), -1000000);
        Check.due("rests(-1)", x.rests(-1), -1);
        Check.due("gains(0, 0)", x.gains(0, 0), -1000000);
        Check.due("ends(0, 0, 1, -1)", x.ends(0, 0, 1, -1), -1);
        Check.due("ended(0, 0, 1)", x.ended(0, 0, 1), -1);
        Check.due("stood(0)", x.stood(0), -1);
        Check.due("sold()", x.sold(), -1);
        Check.due("image()", x.image(), -1);
        Check.due("back()", x.back(), -1);
    }

    private static void feed() {
        HalfDone x = new HalfDone();
        Check.due("feed of nothing", x.feed(0, 0, 0, 0, 0), 0);
        Check.due("feed of one byte", x.feed(0, 0, 0x00003100, 0, 0), 1);
        Check.due("feed of bytes between zeros", x.feed(0x32000033, 0, 0, 0x00340000, 0x00000035), 5);
        Check.due("they are a beginning", x.text(2), 0);
        for (int k = 0; k < 5; k++) {
            Check.due("sign(0, " + k + ")", x.sign(0, k), k + 1);
        }
        Check.due("the highest byte comes first", x.feed(0x39383736, 0, 0, 0, 0), 4);
        Check.due("text(2)", x.text(2), 1);
        Check.due("sign(1, 0)", x.sign(1, 0), 9);
        Check.due("sign(1, 3)", x.sign(1, 3), 6);
        for (int k = 1; k <= 11; k++) {
            Check.due("feed of twenty", x.feed(-1, -1, -1, -1, -1), 20 * k);
        }
        Check.due("feed up to 239", x.feed(-1, -1, -1, -1, 0xffffff00), 239);
        Check.due("feed above 240", x.feed(0x00310031, 0, 0, 0, 0), -1);
        Check.due("nothing came", x.count(5), 239);
        Check.due("feed up to 240", x.feed(0, 0, 0, 0, 1), 240);
        Check.due("feed above 240", x.feed(1, 0, 0, 0, 0), -1);
        Check.due("feed of nothing at 240", x.feed(0, 0, 0, 0, 0), 240);
        Check.due("above 240 by the second", x.feed(0, 1, 0, 0, 0), -1);
        Check.due("above 240 by the third", x.feed(0, 0, 1, 0, 0), -1);
        Check.due("above 240 by the fourth", x.feed(0, 0, 0, 1, 0), -1);
        Check.due("above 240 by the fifth", x.feed(0, 0, 0, 0, 1), -1);
        Check.due("the tape stays", x.count(5), 240);
    }

    private static void end() {
        HalfDone x = new HalfDone();
        Check.due("end(0) of an empty tape", x.end(0), true);
        Check.due("end(1) of an empty tape", x.end(1), false);
        Check.due("end(-1)", x.end(-1), false);
        Check.tape(x, "12345");
        Check.due("end(6)", x.end(6), false);
        Check.due("end(-1)", x.end(-1), false);
        Check.due("end(2147483647)", x.end(Integer.MAX_VALUE), false);
        Check.due("end(-2147483648)", x.end(Integer.MIN_VALUE), false);
        Check.due("count(5)", x.count(5), 5);
        Check.due("end(5)", x.end(5), true);
        Check.due("count(5)", x.count(5), 5);
        Check.due("end(3)", x.end(3), true);
        Check.due("count(5)", x.count(5), 3);
        Check.due("the first stay: feed", x.feed('9', 0, 0, 0, 0), 4);
        Check.due("text(2)", x.text(2), 0);
        Check.due("sign(0, 2)", x.sign(0, 2), 3);
        Check.due("sign(0, 3)", x.sign(0, 3), 9);
    }
}
