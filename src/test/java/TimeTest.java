/** Promises 11 (takes), 12 (alone), 13 (who), 14 (stuck), 15 (team), 16 (helpers) and 36 (sold). */
final class TimeTest {
    public static void main(String[] args) {
        takes();
        alone();
        stuckTeamHelpers();
        closed();
        sold();
        Check.finish();
    }

    private static void takes() {
        HalfDone x = Check.with("td1:a9a2b1;ha1;ha4;ha9");
        Check.due("takes(0, 0, 0)", x.takes(0, 0, 0), 27);
        Check.due("takes(1, 0, 0)", x.takes(1, 0, 0), 7);
        Check.due("takes(2, 0, 0)", x.takes(2, 0, 0), 3);
        Check.due("takes(1, 0, 1)", x.takes(1, 0, 1), 2);
        Check.due("takes(2, 0, 1)", x.takes(2, 0, 1), 1);
        Check.due("takes with SKILL 0", x.takes(0, 0, 2), -1);
        Check.due("takes(3, 0, 0)", x.takes(3, 0, 0), -1);
        Check.due("takes(-1, 0, 0)", x.takes(-1, 0, 0), -1);
        Check.due("takes(0, 1, 0)", x.takes(0, 1, 0), -1);
        Check.due("takes(0, 0, 3)", x.takes(0, 0, 3), -1);
        Check.due("takes(0, 0, -1)", x.takes(0, 0, -1), -1);
        HalfDone y = Check.with("td1:a2;ha3");
        Check.due("takes of what is FINISHED", y.takes(0, 0, 0), 2);
    }

    private static void alone() {
        HalfDone x = Check.with("tr8d1:b1a2a3b1;ha3b2;ha2b3;ha9;hb9a9");
        // a2, a3, b1 are LEFT: 2 + 3 + 2; 3 + 5 + 1; it can't; 1 + 1 + 1
        Check.due("alone(0, 0)", x.alone(0, 0), 7);
        Check.due("alone(1, 0)", x.alone(1, 0), 9);
        Check.due("alone(2, 0)", x.alone(2, 0), -1);
        Check.due("alone(3, 0)", x.alone(3, 0), 3);
        Check.due("alone(4, 0)", x.alone(4, 0), -1);
        Check.due("alone(0, 1)", x.alone(0, 1), -1);
        Check.due("alone(-1, 0)", x.alone(-1, 0), -1);
        Check.due("alone(0, -1)", x.alone(0, -1), -1);
        Check.due("who(0)", x.who(0), 9);
        x.give(0, 0);
        x.days(1);
        Check.due("a STEP begun is as not begun", x.alone(0, 0), 7);
        Check.due("who(0): DAY 1 and 7 are 8", x.who(0), 9);
        x.give(0, -1);
        x.days(1);
        Check.due("who(0): DAY 2 and 7 are more", x.who(0), 8);
        Check.due("who(1)", x.who(1), -1);
        Check.due("who(-1)", x.who(-1), -1);
    }

    private static void stuckTeamHelpers() {
        HalfDone x = Check.with("tr9d1:e1a2b3;tr9:a2c1b2d1;ha3b1;hb3;hb9a1");
        Check.due("stuck(0): e is done", x.stuck(0), -1);
        Check.due("stuck(1)", x.stuck(1), 1);
        Check.due("stuck(2)", x.stuck(2), -1);
        Check.due("stuck(-1)", x.stuck(-1), -1);
        x.teach(0, 2);
        Check.due("stuck(1) then", x.stuck(1), 3);
        // a2 by 3, 0, 1: 2, -, 6; b3 by 1, 3, 9: 9, 3, 1
        Check.due("team(0, 1)", x.team(0, 1), 11);
        Check.due("team(0, 2)", x.team(0, 2), -1);
        Check.due("team(0, 3)", x.team(0, 3), 5);
        Check.due("team(0, 4)", x.team(0, 4), 7);
        Check.due("team(0, 5)", x.team(0, 5), 3);
        Check.due("team(0, 6)", x.team(0, 6), 7);
        Check.due("team(0, 7)", x.team(0, 7), 3);
        Check.due("team(0, 0)", x.team(0, 0), -1);
        Check.due("team(0, 8)", x.team(0, 8), -1);
        Check.due("team(0, -1)", x.team(0, -1), -1);
        Check.due("team(2, 1)", x.team(2, 1), -1);
        Check.due("helpers(0): one can", x.helpers(0), 4);
        x.days(3);
        Check.due("helpers(0): two can, the least", x.helpers(0), 3);
        x.days(2);
        Check.due("helpers(0): those who are quicker", x.helpers(0), 5);
        x.days(2);
        Check.due("helpers(0): none in time", x.helpers(0), -1);
        Check.due("team is not asked for time", x.team(0, 7), 3);
        Check.due("helpers(1)", x.helpers(1), -1);
        Check.due("helpers(2)", x.helpers(2), -1);
        HalfDone y = Check.with("tr1:a1b1;h;ha3;hb3;ha3b3");
        Check.due("helpers: none in time", y.helpers(0), -1);
        HalfDone z = Check.with("tr2:a1b1;h;ha3;hb3;ha3b3;ha9b9");
        Check.due("helpers: the least of those alone", z.helpers(0), 8);
        Check.due("helpers: the first", Check.with("tr2:a1b1;ha3b3;ha3b3").helpers(0), 1);
        Check.due("helpers: all", Check.with("tr3:a1b1c1;ha3;hb3;hc3").helpers(0), 7);
    }

    private static void closed() {
        HalfDone x = Check.with("td1:a1;tr1:a1c1;ha3");
        x.days(1);
        for (int thing = 0; thing < 2; thing++) {
            Check.due("alone(0, " + thing + ")", x.alone(0, thing), -1);
            Check.due("who(" + thing + ")", x.who(thing), -1);
            Check.due("stuck(" + thing + ")", x.stuck(thing), -1);
            Check.due("team(" + thing + ", 1)", x.team(thing, 1), -1);
            Check.due("helpers(" + thing + ")", x.helpers(thing), -1);
        }
    }

    private static void sold() {
        HalfDone x = Check.with("tv1r2:a1b1;tv2r2:a1;tv4r1:a1b1;tv8r2:a1b1;tv16r2:a1c1;tv32r2d2:a1b1;ha3;hb3");
        Check.due("sold()", x.sold(), 9);
        x.give(0, 0);
        x.days(1);
        Check.due("sold(): by HEIR 1 alone in time then", x.sold(), 0);
        Check.due("sold() without a WILL", new HalfDone().sold(), -1);
        HalfDone y = Check.with("tv5r2:a1b1;ha3b3;hb3");
        Check.due("sold(): one can alone", y.sold(), 0);
    }
}
