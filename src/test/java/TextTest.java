/** Promise 5: text. */
final class TextTest {
    public static void main(String[] args) {
        numbers();
        anotherWill();
        refused();
        Check.finish();
    }

    private static void numbers() {
        HalfDone x = new HalfDone();
        for (int k = 0; k < 6; k++) {
            Check.due("LAW " + k, Check.put(x, 1, "y:" + k), k);
            Check.due("the tape is empty", x.count(5), 0);
        }
        Check.due("a seventh LAW", Check.put(x, 1, "y:1"), -1);
        Check.due("its tape stays", x.count(5), 3);
        Check.due("LAWS", x.count(3), 6);
        for (int k = 0; k < 4; k++) {
            Check.due("BEGINNING " + k, Check.put(x, 2, "1" + k), k);
            Check.due("the tape is empty", x.count(5), 0);
        }
        Check.due("a fifth BEGINNING", Check.put(x, 2, "123"), -1);
        Check.due("its tape stays", x.count(5), 3);
        Check.due("fault(2) of it all the same", x.fault(2), -1);
        Check.due("BEGINNINGS", x.count(4), 4);
        Check.due("the fourth one is as it was", x.sign(3, 1), 3);
        Check.due("WILL", Check.put(x, 0, "t:a1;h;t:a1;t:b1"), 3);
        Check.due("the tape is empty", x.count(5), 0);
    }

    private static void anotherWill() {
        HalfDone x = Check.with("tv20:a2b3;td1:a1;ha3;hk4;ga;gb");
        Check.put(x, 1, "y:7");
        Check.put(x, 2, "12");
        x.law(0);
        x.give(0, 1);
        x.teach(0, 0);
        x.days(3);
        x.ended(0, 0, 3);
        x.image();
        Check.due("another WILL", Check.put(x, 0, "tr9:c1;hc1"), 1);
        int[] want = {1, 1, 0, 1, 1, 0, 0, -1, 0, 0, 0, 0, 0};
        for (int what = 0; what <= 12; what++) {
            Check.due("count(" + what + ") then", x.count(what), want[what]);
        }
        int[] thing = {10, 9, 0, 1, -1, 0, 0, -1, -1};
        for (int what = 0; what <= 8; what++) {
            Check.due("thing(0, " + what + ") then", Check.thing(x, 0, what), thing[what]);
        }
        Check.due("heir(0, 0) then", x.heir(0, 0), 0);
        Check.due("heir(0, 2) then", x.heir(0, 2), 1);
        Check.due("heir(0, 5) then", x.heir(0, 5), 0);
        Check.due("thing(1, 0) then", Check.thing(x, 1, 0), Check.THROWN);
        Check.due("back() then", x.back(), -1);
        Check.due("undo() then", x.undo(), -1);
        Check.due("wish(0, 0) then", x.wish(0, 0), 10);
        Check.due("stood(0) then", x.stood(0), 3);
        Check.due("the LAW is there", x.law(0), true);
        Check.due("wish(0, 0) by it", x.wish(0, 0), 7);
        Check.due("the BEGINNING is there", x.sign(0, 1), 2);
        Check.due("a third WILL", Check.put(x, 0, "t:a1;h;h"), 1);
        Check.due("KIN of the first is gone", x.heir(1, 5), 0);
        Check.due("TOOLS of the first are gone", x.tools(0) + x.tools(1) + x.count(2), 0);
        Check.due("SKILLS of the first are gone", x.heir(0, 0), 0);
    }

    private static void refused() {
        HalfDone x = Check.with("tv20:a2b3;ha3;ga");
        x.give(0, 0);
        x.days(1);
        Check.tape(x, "t:a1;h;x");
        String before = Check.dump(x);
        for (int sort : new int[] {0, 1, 2, 3, -1, Integer.MAX_VALUE, Integer.MIN_VALUE}) {
            Check.due("text(" + sort + ") of a FAULT", x.text(sort), -1);
        }
        Check.due("nothing has changed", Check.dump(x).equals(before), true);
        Check.tape(x, "td2:a1;h");
        Check.due("text(0) of more DONE than STEPS", x.text(0), -1);
        Check.tape(x, "y:");
        Check.due("text(1) of a LAW that ends too early", x.text(1), -1);
        x.end(0);
        Check.due("text(2) of nothing", x.text(2), -1);
        Check.due("nothing was put", x.count(3) + x.count(4), 0);
    }
}
