/** Edges of promises 34 (ended), 35 (stood), 38 (image) and 39 (back). */
final class EdgeStoodTest {
    public static void main(String[] args) {
        endedRefused();
        twelve();
        stoodRefused();
        stood();
        image();
        back();
        backKeeps();
        Check.finish();
    }

    private static void endedRefused() {
        Edge.says("ended: NONE: no such ones, out of bounds, there are twelve.");
        Edge.refused("ended(0, 0, 1) without a WILL", Edge::none, o -> o.ended(0, 0, 1), -1);
        for (int far : new int[] {-1, 4, 6, Integer.MIN_VALUE, Integer.MAX_VALUE}) {
            Edge.refused("THING " + far, Edge::amid, o -> o.ended(far, 0, 1), -1);
        }
        for (int far : new int[] {-1, 2, 6, Integer.MIN_VALUE, Integer.MAX_VALUE}) {
            Edge.refused("HEIR " + far, Edge::amid, o -> o.ended(0, far, 1), -1);
        }
        for (int far : new int[] {-1, 0, 100, Integer.MIN_VALUE, Integer.MAX_VALUE}) {
            Edge.refused("days " + far, Edge::amid, o -> o.ended(0, 0, far), -1);
        }
        Edge.refused("a thirteenth", Edge::full, o -> o.ended(0, 0, 1), -1);
        Edge.refused("a thirteenth, 99 days", Edge::full, o -> o.ended(5, 5, 99), -1);
        Edge.says("in just so many days from its death (1 .. 99)");
        for (int days : new int[] {1, 2, 98, 99}) {
            HalfDone x = Edge.amid();
            Edge.due("days " + days, x.ended(3, 1, days), 3);
            Edge.due("count(8)", x.count(8), 3);
        }
    }

    private static void twelve() {
        Edge.says("(12 ENDINGS at most); ENDINGS: how many there are.");
        HalfDone x = Check.with("t:a1;t:a1;t:a1;t:a1;t:a1;t:a1;ha3;ha3;ha3;ha3;ha3;ha3");
        for (int many = 1; many <= 12; many++) {
            Edge.due("ended", x.ended((many - 1) % 6, (many - 1) % 6, many == 12 ? 2 : 1), many);
            Edge.due("count(8)", x.count(8), many);
        }
        Edge.due("a thirteenth", x.ended(0, 0, 1), -1);
        Edge.due("count(8)", x.count(8), 12);
        Edge.due("the first and the seventh", x.stood(0), 1);
        Edge.due("the sixth and the twelfth", x.stood(5), 0);
        Edge.due("ENDINGS are no ACTS", x.undo(), -1);
        Check.put(x, 0, "t:a1;ha3");
        Edge.due("those of another WILL are gone", x.ended(0, 0, 1), 1);
    }

    private static void stoodRefused() {
        Edge.says("stood: NONE: no such THING.");
        Edge.refused("stood(0) without a WILL", Edge::none, o -> o.stood(0), -1);
        for (int far : new int[] {-1, 4, 6, Integer.MIN_VALUE, Integer.MAX_VALUE}) {
            Edge.refused("stood(" + far + ") of four", Edge::amid, o -> o.stood(far), -1);
        }
        Edge.refused("stood(6) of six", Edge::full, o -> o.stood(6), -1);
    }

    private static void stood() {
        Edge.says("STOOD, as bits (nothing told: all up to its STEPS)");
        String steps = "a1a1a1a1a1a1a1a1";
        for (int many = 1; many <= 8; many++) {
            for (int done = 0; done <= many; done += many) {
                HalfDone x = Check.with("td" + done + ":" + steps.substring(0, 2 * many) + ";ha3");
                Edge.due(many + " STEPS, " + done + " DONE", x.stood(0), (2 << many) - 1);
            }
        }
        Edge.says("DONE (bits 0 .. 8) with which that is so, all ENDINGS of that THING together");
        HalfDone eight = Check.with("t:" + steps + ";ha3;h");
        for (int days = 1; days <= 9; days++) {
            eight.ended(0, 0, days);
            Edge.due("one day a STEP, " + days, eight.stood(0), days == 1 ? 128 : 0);
        }
        for (int days = 1; days <= 9; days++) {
            HalfDone x = Check.with("t:" + steps + ";ha3;h");
            x.ended(0, 0, days);
            Edge.due("ended in " + days + " days", x.stood(0), days <= 8 ? 1 << (8 - days) : 0);
            x.ended(0, 0, days);
            Edge.due("told twice", x.stood(0), days <= 8 ? 1 << (8 - days) : 0);
        }
        HalfDone long99 = Check.with("tr1:a9a9a9a6a1;ha1");
        long99.ended(0, 0, 99);
        Edge.due("27 and 27 and 27 and 18 and 3 are 102", long99.stood(0), 0);
        HalfDone just99 = Check.with("tr1d4:a9a9a9a6;ha1");
        just99.ended(0, 0, 99);
        Edge.due("27 and 27 and 27 and 18 are 99", just99.stood(0), 1);
        HalfDone cannot = Check.with("t:b1a1;ha3;ha3b3");
        cannot.ended(0, 0, 1);
        Edge.due("b it can't: with that DONE alone", cannot.stood(0), 2);
        cannot.ended(0, 1, 1);
        Edge.due("the other too", cannot.stood(0), 2);
        cannot.ended(0, 1, 2);
        Edge.due("not both one and two", cannot.stood(0), 0);
        HalfDone nobody = Check.with("t:a1;h");
        nobody.ended(0, 0, 1);
        Edge.due("one that can't at all", nobody.stood(0), 0);
        HalfDone over = Check.with("td1:a1a1;tr1:a1a1;ha3");
        over.days(1);
        over.ended(0, 0, 2);
        over.ended(1, 0, 1);
        Edge.due("from its death, not from as it is", over.stood(0), 1);
        Edge.due("ROTTEN or not", over.stood(1), 2);
    }

    private static void image() {
        Edge.says("image: NONE: no WILL.");
        Edge.refused("image() without a WILL", Edge::none, HalfDone::image, -1);
        Edge.says("An IMAGE (instead of the one ahead): the DAY.");
        HalfDone x = Check.with("tr99:a9;ha1");
        Edge.due("on DAY 0", x.image(), 0);
        x.days(1);
        Edge.due("on DAY 1", x.image(), 1);
        x.days(2);
        Edge.due("back()", x.back(), 1);
        Edge.due("the one ahead is gone: back()", x.back(), 1);
        Edge.due("on DAY 999", Edge.late().image(), 999);
        HalfDone late = Edge.late();
        late.image();
        late.undo();
        Edge.due("back() to DAY 999", late.back(), 999);
        Edge.due("days(1) there", late.days(1), -1);
    }

    private static void back() {
        Edge.says("back: NONE: no IMAGE of this WILL.");
        Edge.refused("back() without a WILL", Edge::none, HalfDone::back, -1);
        Edge.refused("back() without an IMAGE", () -> Check.with("t:a1;h"), HalfDone::back, -1);
        Edge.refused("back() without an IMAGE, on the last DAY", Edge::late, HalfDone::back, -1);
        Edge.refused("back() to another WILL", () -> {
            HalfDone x = Edge.amid();
            Check.put(x, 0, "t:a1;ha3");
            x.give(0, 0);
            return x;
        }, HalfDone::back, -1);
        HalfDone x = Check.with("t:a1;h");
        x.image();
        Check.put(x, 0, "t:a1;");
        Edge.due("a WILL that was refused leaves it", x.back(), 0);
        Check.put(x, 1, "y:1");
        Check.put(x, 2, "1");
        Edge.due("so do LAWS and BEGINNINGS", x.back(), 0);
        Check.put(x, 0, "t:a1;h");
        Edge.due("the same WILL once more is another", x.back(), -1);
        Edge.due("image()", x.image(), 0);
        Edge.due("back()", x.back(), 0);
        Edge.says("BACK: they are so again (no ACT can be UNDONE then)");
        HalfDone y = Check.with("t:a1;h");
        y.teach(0, 0);
        y.image();
        Edge.due("an IMAGE leaves the ACTS", y.count(9), 1);
        Edge.due("back()", y.back(), 0);
        Edge.due("no ACT, not even those ahead of the IMAGE", y.count(9), 0);
        Edge.due("undo()", y.undo(), -1);
        Edge.due("SKILL", y.heir(0, 0), 1);
        Edge.due("an ACT then", y.teach(0, 0), 2);
        Edge.due("can be UNDONE", y.undo(), 0);
        Edge.due("SKILL", y.heir(0, 0), 1);
    }

    private static void backKeeps() {
        Edge.says("An IMAGE keeps all of THINGS, SKILLS, the DAY");
        HalfDone x = Check.with("tr9:a2a1;tr3:b1;td1:a1;t:c1;ha3;hb1;ga");
        x.give(0, 0);
        x.give(1, 1);
        x.days(1);
        int[][] want = new int[4][9];
        x.image();
        for (int thing = 0; thing < 4; thing++) {
            for (int what = 0; what <= 8; what++) {
                want[thing][what] = (int) Check.thing(x, thing, what);
            }
        }
        for (int k = 0; k < 2; k++) {
            x.give(3, 1);
            x.teach(1, 2);
            x.days(4);
            x.generation(3);
            x.ended(0, 0, 3);
            Edge.due("FINISHED and ROTTEN meanwhile", x.count(10) * 10 + x.count(11), 30);
            Edge.due("back()", x.back(), 1);
            Edge.due("the DAY", x.count(6), 1);
            Edge.due("FINISHED and ROTTEN", x.count(10) * 10 + x.count(11), 10);
            for (int thing = 0; thing < 4; thing++) {
                for (int what = 0; what <= 8; what++) {
                    Edge.due("thing(" + thing + ", " + what + ")", Check.thing(x, thing, what), want[thing][what]);
                }
            }
            Edge.due("SKILLS", x.heir(0, 0) * 100 + x.heir(1, 1) * 10 + x.heir(1, 2), 310);
            Edge.due("ENDINGS are not kept by it", x.count(8), k + 1);
        }
    }
}
