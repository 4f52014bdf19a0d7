/** Promises 17 (give), 18 (teach), 19 (days), 20 (generation) and 21 (undo). */
final class ActsTest {
    public static void main(String[] args) {
        give();
        teach();
        daysOfOne();
        daysOfMany();
        daysWithTools();
        rotting();
        bounds();
        generation();
        undo();
        fortyActs();
        Check.finish();
    }

    private static void give() {
        HalfDone x = Check.with("t:a1;tr1:a9;td1:a1;ha3;h");
        Check.due("to nobody: it is so", x.give(0, -1), -1);
        Check.due("give(0, 0)", x.give(0, 0), 1);
        Check.due("it is so", x.give(0, 0), -1);
        Check.due("give(0, 1)", x.give(0, 1), 2);
        Check.due("who HOLDS it", Check.thing(x, 0, 4), 1);
        Check.due("give(0, -1)", x.give(0, -1), 3);
        Check.due("who HOLDS it", Check.thing(x, 0, 4), -1);
        Check.due("no such THING", x.give(3, 0), -1);
        Check.due("no such THING", x.give(-1, 0), -1);
        Check.due("no such HEIR", x.give(0, 2), -1);
        Check.due("no such HEIR", x.give(0, -2), -1);
        Check.due("FINISHED", x.give(2, 0), -1);
        Check.due("give(1, 1)", x.give(1, 1), 4);
        x.days(1);
        Check.due("ROTTEN", x.give(1, 0), -1);
        Check.due("ROTTEN, to nobody", x.give(1, -1), -1);
        Check.due("ACTS", x.count(9), 5);
    }

    private static void teach() {
        HalfDone x = Check.with("t:a1;ha8;h");
        Check.due("teach(0, 0)", x.teach(0, 0), 9);
        Check.due("it is 9", x.teach(0, 0), -1);
        Check.due("teach(1, 4)", x.teach(1, 4), 1);
        Check.due("teach(1, 4)", x.teach(1, 4), 2);
        Check.due("heir(1, 4)", x.heir(1, 4), 2);
        Check.due("heir(1, 3)", x.heir(1, 3), 0);
        Check.due("teach(2, 0)", x.teach(2, 0), -1);
        Check.due("teach(-1, 0)", x.teach(-1, 0), -1);
        Check.due("teach(0, 5)", x.teach(0, 5), -1);
        Check.due("teach(0, -1)", x.teach(0, -1), -1);
        Check.due("ACTS", x.count(9), 3);
    }

    private static void daysOfOne() {
        // a1 needs 3, b2 needs 6: 4 a day is over by 1, then 2 and 2 and 2
        HalfDone x = Check.with("t:a1b2;ha4b2");
        x.days(1);
        Check.due("nobody HOLDS it", Check.thing(x, 0, 2) + Check.thing(x, 0, 6), 0);
        x.give(0, 0);
        Check.due("days(1)", x.days(1), 2);
        Check.due("DONE", Check.thing(x, 0, 2), 1);
        Check.due("what is over is lost", Check.thing(x, 0, 6), 0);
        x.days(2);
        Check.due("has got", Check.thing(x, 0, 6), 4);
        Check.due("to be done", Check.thing(x, 0, 5), 0);
        Check.due("days(1)", x.days(1), 5);
        Check.due("FINISHED", Check.thing(x, 0, 5), 1);
        Check.due("has got nothing more", Check.thing(x, 0, 6), 0);
        Check.due("on DAY 5", Check.thing(x, 0, 7), 5);
        Check.due("by HEIR 0", Check.thing(x, 0, 8), 0);
        Check.due("who HOLDS it still", Check.thing(x, 0, 4), 0);
        HalfDone z = Check.with("t:a9;t:a9;t:a2a1;ha4");
        z.give(2, 0);
        z.days(2);
        Check.due("what is over is lost, of a later THING too", Check.thing(z, 2, 6), 0);
        Check.due("DONE", Check.thing(z, 2, 2), 1);
        HalfDone y = Check.with("t:a1a1;ha9");
        y.give(0, 0);
        y.days(1);
        Check.due("one STEP a day", Check.thing(y, 0, 2), 1);
    }

    private static void daysOfMany() {
        HalfDone x = Check.with("t:b1a1;t:a1b1;t:a2;ha3;ha1b2");
        x.give(0, 0);
        x.give(1, 0);
        x.give(2, 0);
        x.days(1);
        Check.due("THING 0 needs another", Check.thing(x, 0, 6), 0);
        Check.due("the lowest that it can", Check.thing(x, 1, 2), 1);
        Check.due("no other on that day", Check.thing(x, 2, 6), 0);
        x.days(1);
        Check.due("then the next", Check.thing(x, 2, 6), 3);
        x.give(0, 1);
        x.give(2, 1);
        x.days(2);
        Check.due("HEIR 1 at the lowest", Check.thing(x, 0, 2), 1);
        Check.due("what has been got stays", Check.thing(x, 2, 6), 3);
        x.days(3);
        Check.due("its next STEP too", Check.thing(x, 0, 5), 1);
        Check.due("by HEIR 1", Check.thing(x, 0, 8), 1);
        Check.due("then what HEIR 0 began", Check.thing(x, 2, 6), 3);
        x.days(3);
        Check.due("FINISHED by HEIR 1", Check.thing(x, 2, 8), 1);
        Check.due("on DAY 10", Check.thing(x, 2, 7), 10);
    }

    private static void daysWithTools() {
        HalfDone x = Check.with("t:a9;t:a9;t:a9;t:b9;t:b9;ha1b1;ha2b2;ha3b3;hb4;hb5;ga;ga");
        for (int thing = 0; thing < 5; thing++) {
            x.give(thing, thing);
        }
        x.days(1);
        int[] want = {1, 2, 0, 4, 5};
        for (int thing = 0; thing < 5; thing++) {
            Check.due("two TOOLS of a, none of b: THING " + thing, Check.thing(x, thing, 6), want[thing]);
        }
        HalfDone y = Check.with("t:a9;t:a9;t:b9;ha1;ha2b2;ga");
        y.give(0, 0);
        y.give(1, 1);
        y.give(2, 1);
        y.days(2);
        Check.due("the first has the TOOL", Check.thing(y, 0, 6), 2);
        Check.due("the other rests", Check.thing(y, 1, 6), 0);
        Check.due("from all", Check.thing(y, 2, 6), 0);
        y.give(0, -1);
        y.days(1);
        Check.due("the TOOL is free", Check.thing(y, 1, 6), 2);
    }

    private static void rotting() {
        HalfDone x = Check.with("tr2:a2;tr1:a2;tr2:a2;ha3;ha3");
        x.give(0, 0);
        x.give(1, 1);
        x.days(1);
        Check.due("ROTS 1 at the end of DAY 1", Check.thing(x, 1, 5), 2);
        Check.due("ROTS 2 not yet", Check.thing(x, 2, 5), 0);
        x.days(1);
        Check.due("FINISHED on its last DAY", Check.thing(x, 0, 5), 1);
        Check.due("on DAY 2", Check.thing(x, 0, 7), 2);
        Check.due("one that is not", Check.thing(x, 2, 5), 2);
        Check.due("at what is ROTTEN nobody works", Check.thing(x, 1, 6), 3);
        x.days(9);
        Check.due("what is FINISHED does not rot", Check.thing(x, 0, 5), 1);
        Check.due("its DAY stays", Check.thing(x, 0, 7), 2);
        Check.due("FINISHED", x.count(10), 1);
        Check.due("ROTTEN", x.count(11), 2);
    }

    private static void bounds() {
        HalfDone x = Check.with("td1:a1;h");
        for (int n : new int[] {0, -1, 100, Integer.MAX_VALUE, Integer.MIN_VALUE}) {
            Check.due("days(" + n + ")", x.days(n), -1);
        }
        for (int k = 1; k <= 10; k++) {
            Check.due("days(99)", x.days(99), 99 * k);
        }
        Check.due("days(10): above 999", x.days(10), -1);
        Check.due("DAY", x.count(6), 990);
        Check.due("days(9)", x.days(9), 999);
        Check.due("days(1): above 999", x.days(1), -1);
    }

    private static void generation() {
        // draws by seed 5: 2 3 4 5 5, 1 9 9 0 4; by the least seed: 1 8 3 0 9, 7 8 9 8 3
        HalfDone x = Check.with("t:a1;td1:a1;t:a1;ha4b5d6;ha8d7");
        x.give(0, 0);
        x.give(2, 1);
        x.teach(1, 4);
        Check.due("generation(5)", x.generation(5), 5);
        Check.due("a draw of 1", x.heir(1, 0), 9);
        Check.due("a draw of 0", x.heir(1, 3), 0);
        Check.due("others", x.heir(0, 0) * 100 + x.heir(0, 1) * 10 + x.heir(0, 3), 456);
        Check.due("nobody HOLDS anything", x.heir(0, 6) + x.heir(1, 6), 0);
        Check.due("generation(5) once more", x.generation(5), 5);
        Check.due("9 at most", x.heir(1, 0), 9);
        Check.due("generation of the least", x.generation(Long.MIN_VALUE), 4);
        Check.due("a draw of 1", x.heir(0, 0), 5);
        Check.due("a draw of 0", x.heir(0, 3), 0);
        Check.due("the DAY stays", x.count(6), 0);
        Check.due("ACTS", x.count(9), 6);
        x.undo();
        Check.due("undone", x.heir(0, 0) * 10 + x.heir(0, 3), 46);
        x.undo();
        x.undo();
        Check.due("undone", x.heir(1, 0) * 10 + x.heir(1, 3), 87);
        Check.due("they HOLD again", x.heir(0, 6) * 10 + x.heir(1, 6), 14);
    }

    private static void undo() {
        HalfDone x = Check.with("tr2:a1b1;tr1:a1;ha3;hb3");
        String[] was = new String[9];
        int acts = 0;
        for (int k = 0; k < was.length - 1; k++) {
            was[k] = Check.dump(x);
            Check.due("ACTS", x.count(9), acts);
            switch (k) {
                case 0 -> x.give(0, 0);
                case 1 -> x.teach(1, 2);
                case 2 -> x.days(1);
                case 3 -> x.give(0, 1);
                case 4 -> x.generation(5);
                case 5 -> x.give(0, 1);
                case 6 -> x.teach(1, 1);
                default -> x.days(1);
            }
            acts++;
        }
        Check.due("FINISHED by HEIR 1", Check.thing(x, 0, 8), 1);
        for (int k = was.length - 2; k >= 0; k--) {
            Check.due("undo()", x.undo(), k);
            Check.due("as it was", Check.dump(x).equals(was[k]), true);
        }
        Check.due("undo(): none", x.undo(), -1);
        x.days(3);
        Check.due("three DAYS are three ACTS: undo()", x.undo(), 2);
        Check.due("DAY", x.count(6), 2);
    }

    private static void fortyActs() {
        HalfDone x = Check.with("t:a1;ha1");
        x.give(0, 0);
        x.days(39);
        Check.due("forty ACTS", x.count(9), 40);
        Check.due("one more is forty still", x.give(0, -1), -1);
        Check.due("DAYS", x.days(60), 99);
        Check.due("forty ACTS", x.count(9), 40);
        Check.due("teach", x.teach(0, 0), 2);
        Check.due("forty ACTS", x.count(9), 40);
        for (int k = 39; k >= 0; k--) {
            Check.due("undo()", x.undo(), k);
        }
        Check.due("undo(): none", x.undo(), -1);
        Check.due("DAY", x.count(6), 60);
    }
}
