/** Edges of promises 1 (a new object), 2 (feed) and 3 (end). */
final class EdgeTapeTest {
    public static void main(String[] args) {
        noWill();
        bytesOfZero();
        moreThan240();
        firstBytes();
        calls512();
        Check.finish();
    }

    private static void noWill() {
        Edge.says("No WILL.");
        HalfDone x = new HalfDone();
        for (int what = 0; what <= 12; what++) {
            Edge.due("count(" + what + ")", x.count(what), what == 7 ? -1 : 0);
        }
        Edge.due("fault(0) of an empty TAPE", x.fault(0), 0);
        Edge.due("fault(1) of an empty TAPE", x.fault(1), 0);
        Edge.due("fault(2) of an empty TAPE", x.fault(2), 0);
        for (int sort = 0; sort <= 2; sort++) {
            int of = sort;
            Edge.refused("text(" + of + ") of an empty TAPE", HalfDone::new, o -> o.text(of), -1);
        }
        Edge.due("the first WILL", Check.put(x, 0, "t:a1;h"), 1);
        Edge.due("it is told then", x.tools(0), 0);
    }

    private static HalfDone withBytes(int many) {
        HalfDone x = new HalfDone();
        Check.tape(x, Edge.times("1", many));
        return x;
    }

    private static void bytesOfZero() {
        Edge.says("Twenty bytes more come to the TAPE (of each number the highest first; bytes of 0 are left out)");
        HalfDone x = new HalfDone();
        Edge.due("feed of twenty zeros", x.feed(0, 0, 0, 0, 0), 0);
        Edge.due("feed of one byte, 1", x.feed(0, 0, 0, 0, 1), 1);
        Edge.due("feed of one byte, 255", x.feed(255, 0, 0, 0, 0), 2);
        Edge.due("feed of the least number", x.feed(0, Integer.MIN_VALUE, 0, 0, 0), 3);
        Edge.due("feed of the greatest number", x.feed(0, 0, Integer.MAX_VALUE, 0, 0), 7);
        Edge.due("feed of nineteen", x.feed(-1, -1, 0xff00ffff, -1, -1), 26);
        Edge.due("feed of twenty", x.feed(-1, -1, -1, -1, -1), 46);
        x.end(0);
        Edge.due("feed of five", x.feed(0x31000032, 0, 0x00330000, 0x00003400, 0x35000000), 5);
        Edge.due("they are one behind the other", x.fault(2), -1);
        Edge.due("text(2)", x.text(2), 0);
        for (int i = 0; i < 5; i++) {
            Edge.due("sign(0, " + i + ")", x.sign(0, i), i + 1);
        }
    }

    private static void moreThan240() {
        Edge.says("NONE: more than 240.");
        Edge.due("220 and 20", withBytes(220).feed(-1, -1, -1, -1, -1), 240);
        Edge.due("221 and 19", withBytes(221).feed(-1, -1, -1, -1, 0x00ffffff), 240);
        Edge.due("238 and 1", withBytes(238).feed(0, 0, '1', 0, 0), 239);
        Edge.due("239 and 1", withBytes(239).feed(0, 0, '1', 0, 0), 240);
        Edge.due("240 and 0", withBytes(240).feed(0, 0, 0, 0, 0), 240);
        Edge.refused("221 and 20", () -> withBytes(221), o -> o.feed(-1, -1, -1, -1, -1), -1);
        Edge.refused("239 and 2", () -> withBytes(239), o -> o.feed('1', 0, 0, 0, '1'), -1);
        Edge.refused("240 and 1", () -> withBytes(240), o -> o.feed(0, 0, 0, 0, '1'), -1);
        Edge.refused("240 and a byte of 1", () -> withBytes(240), o -> o.feed(0, 1, 0, 0, 0), -1);
        Edge.refused("240 and a byte of 255", () -> withBytes(240), o -> o.feed(0, 0, 0, 0xff000000, 0), -1);
        Edge.refused("240 and 20", () -> withBytes(240), o -> o.feed(-1, -1, -1, -1, -1), -1);
        Edge.refused("240 and 1 of a full one", Edge::full, o -> o.feed('1', 0, 0, 0, 0), -1);
        HalfDone x = withBytes(239);
        Edge.due("239 and 2", x.feed(0x31310000, 0, 0, 0, 0), -1);
        Edge.due("no byte of these came: count(5)", x.count(5), 239);
        Edge.due("one is still free", x.feed(0x31000000, 0, 0, 0, 0), 240);
    }

    private static void firstBytes() {
        Edge.says("The TAPE has its first n bytes alone. False: n.");
        Edge.due("end(0) of none", new HalfDone().end(0), true);
        for (int n : new int[] {-1, 1, 240, Integer.MIN_VALUE, Integer.MAX_VALUE}) {
            Edge.refused("end(" + n + ") of none", HalfDone::new, o -> o.end(n) ? 1 : 0, 0);
        }
        for (int n : new int[] {-1, 6, 241, Integer.MIN_VALUE, Integer.MAX_VALUE}) {
            Edge.refused("end(" + n + ") of five", () -> withBytes(5), o -> o.end(n) ? 1 : 0, 0);
        }
        for (int n : new int[] {-1, 5}) {
            Edge.refused("end(" + n + ") of four, amid", Edge::amid, o -> o.end(n) ? 1 : 0, 0);
        }
        Edge.refused("end(241) of 240", Edge::full, o -> o.end(241) ? 1 : 0, 0);
        for (int n = 5; n >= 0; n--) {
            HalfDone x = withBytes(5);
            Edge.due("end(" + n + ") of five", x.end(n), true);
            Edge.due("count(5) then", x.count(5), n);
        }
        HalfDone x = withBytes(240);
        Edge.due("end(240) of 240", x.end(240), true);
        Edge.due("count(5) then", x.count(5), 240);
        Edge.due("end(239) of 240", x.end(239), true);
        Edge.due("count(5) then", x.count(5), 239);
        Edge.due("what was behind is gone: end(240)", x.end(240), false);
        Check.tape(x, "123456");
        x.end(2);
        x.feed('7', 0, 0, 0, 0);
        x.text(2);
        Edge.due("its first two", x.sign(0, 0) * 10 + x.sign(0, 1), 12);
        Edge.due("the next comes behind them", x.sign(0, 2), 7);
        Edge.due("the others are gone", x.sign(0, -1), 3);
    }

    private static void calls512() {
        Edge.says("An object is used for at most 512 calls after it has been made");
        HalfDone x = new HalfDone();
        Edge.due("call 1", x.feed(0x743a6132, 0x3b686133, 0, 0, 0), 8);
        Edge.due("call 2", x.text(0), 1);
        for (int call = 3; call <= 504; call++) {
            if (call % 2 == 1) {
                Edge.due("call " + call, x.give(0, call % 4 == 3 ? 0 : -1), Math.min(40, (call - 1) / 2));
            } else {
                Edge.due("call " + call, Check.thing(x, 1, 0), Check.THROWN);
            }
        }
        Edge.due("call 505", x.thing(0, 4), 0);
        Edge.due("call 506", x.days(1), 1);
        Edge.due("call 507", x.deal(1), 10);
        Edge.due("call 508", x.days(1), 2);
        Edge.due("call 509", x.thing(0, 5), 1);
        Edge.due("call 510", x.undo(), 39);
        Edge.due("call 511", x.thing(0, 6), 3);
        Edge.due("call 512", x.count(9), 39);
    }
}
