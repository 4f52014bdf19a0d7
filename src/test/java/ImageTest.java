/** Promises 38 (image) and 39 (back). */
final class ImageTest {
    public static void main(String[] args) {
        HalfDone x = Check.with("tr9:a2b1;tr4:a1;ha3;hb3;ga");
        Check.put(x, 1, "y:1");
        Check.due("back() without an IMAGE", x.back(), -1);
        Check.due("image()", x.image(), 0);
        x.give(0, 0);
        x.days(1);
        x.teach(0, 1);
        Check.due("image() instead", x.image(), 1);
        Check.due("it is no ACT", x.count(9), 3);
        String was = Check.dump(x);
        x.days(4);
        x.generation(5);
        x.ended(0, 0, 3);
        x.law(0);
        Check.due("ROTTEN", Check.thing(x, 1, 5), 2);
        Check.due("FINISHED", Check.thing(x, 0, 5), 1);
        Check.due("back()", x.back(), 1);
        Check.due("DAY", x.count(6), 1);
        Check.due("to be done", Check.thing(x, 1, 5), 0);
        Check.due("has got", Check.thing(x, 0, 6), 3);
        Check.due("who HOLDS it", Check.thing(x, 0, 4), 0);
        Check.due("not FINISHED", Check.thing(x, 0, 7), -1);
        Check.due("SKILLS", x.heir(0, 0) * 10 + x.heir(0, 1), 31);
        Check.due("no ACT can be UNDONE", x.undo(), -1);
        Check.due("ACTS", x.count(9), 0);
        Check.due("ENDINGS stay", x.count(8), 1);
        Check.due("the LAW holds still", x.count(7), 0);
        Check.due("not all is as it was", Check.dump(x).equals(was), false);
        x.days(5);
        Check.due("back() once more", x.back(), 1);
        Check.due("an ACT then: undo()", x.teach(1, 0) + x.undo(), 1);
        x.days(2);
        x.undo();
        x.undo();
        Check.due("UNDONE ACTS leave the IMAGE: back()", x.back(), 1);
        Check.put(x, 0, "t:a1;h");
        Check.due("no IMAGE of this WILL", x.back(), -1);
        Check.due("image() without a WILL", new HalfDone().image(), -1);
        Check.due("back() without a WILL", new HalfDone().back(), -1);
        Check.finish();
    }
}
