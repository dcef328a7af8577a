/** Promises 35 to 37 and 44: bodies, acts, the trace, counts. */
public final class ActsTest {
    private static final Check c = new Check();

    public static void main(String[] args) {
        bodies();
        acts();
        refused();
        counts();
        c.end();
    }

    private static void bodies() {
        c.promise("promise 35");
        CastWithVows x = new CastWithVows();
        c.due("kind -1", x.body(-1), CastWithVows.BAD);
        c.due("kind 8", x.body(8), CastWithVows.BAD);
        for (int i = 0; i < 50; i++) {
            c.due("body", x.body(i % 8), i);
        }
        c.due("a 51st", x.body(0), CastWithVows.FULL);
        c.due("BAD ahead of FULL", x.body(8), CastWithVows.BAD);
        x.keep(0, 49);
        c.due("its kind", x.taken(0, 0), 1);
    }

    private static void act(CastWithVows x, int body, int act, int with, int want, int... trace) {
        String call = "act(" + body + ", " + act + ", " + with + ")";
        c.promise("promise 36");
        c.due(call, x.act(body, act, with), want);
        c.promise("promise 37");
        c.due("bodies that ran in " + call, x.count(5), trace.length);
        for (int i = 0; i < trace.length; i++) {
            c.due("trace(" + i + ") of " + call, x.trace(i), trace[i]);
        }
        c.due("trace behind the last of " + call, x.trace(trace.length), CastWithVows.BAD);
        c.due("trace(-1)", x.trace(-1), CastWithVows.BAD);
    }

    /** Body n is of kind n, so a number tells the kind. */
    private static void acts() {
        CastWithVows x = new CastWithVows();
        for (int kind = 0; kind < 8; kind++) {
            x.body(kind);
        }
        act(x, 0, 0, 10, 10, 1);
        act(x, 0, 1, 10, 20, 10, 1);
        act(x, 0, 2, 10, 10, 11);
        act(x, 0, 3, 10, 19, 2, 10, 1, 11);
        act(x, 1, 0, 10, 14, 20, 1);
        act(x, 1, 1, 10, 28, 10, 20, 1);
        act(x, 1, 2, 10, 11, 11);
        act(x, 1, 3, 10, 28, 2, 10, 20, 1, 11);
        act(x, 2, 0, 10, 12, 1);
        act(x, 2, 1, 10, -24, 30, 10, 1);
        act(x, 2, 2, 10, 8, 11);
        act(x, 2, 3, 10, -27, 2, 30, 10, 1, 11);
        act(x, 3, 0, 10, 13, 1);
        act(x, 3, 1, 10, -28, 41, 30, 10, 1);
        act(x, 3, 2, 10, 27, 40, 11);
        act(x, 3, 3, 10, -34, 2, 41, 30, 10, 1, 40, 11);
        act(x, 4, 0, 10, 17, 20, 1);
        act(x, 4, 1, 10, 34, 10, 20, 1);
        act(x, 4, 2, 10, 5, 50, 11, 20, 1);
        act(x, 4, 3, 10, 38, 2, 10, 20, 1, 50, 11, 20, 1);
        act(x, 5, 1, 10, -32, 41, 30, 10, 1);
        act(x, 5, 2, 10, 45, 40, 11);
        act(x, 5, 3, 10, (-32 - 12) ^ 5, 60, 2, 41, 30, 10, 1, 40, 11);
        act(x, 6, 0, 10, 32, 70, 1);
        act(x, 6, 1, 10, 64, 10, 70, 1);
        act(x, 6, 3, 10, 57, 2, 10, 70, 1, 11);
        act(x, 7, 0, 10, 20, 20, 1);
        act(x, 7, 1, 10, 33, 80, 10, 20, 1, 50, 11, 20, 1);
        act(x, 7, 2, 10, 1, 50, 11, 20, 1);
        act(x, 7, 3, 10, 38, 81, 2, 80, 10, 20, 1, 50, 11, 20, 1, 50, 11, 20, 1);
        act(x, 6, 0, Integer.MAX_VALUE, 10, 70, 1);
        act(x, 1, 0, Integer.MAX_VALUE, Integer.MIN_VALUE + 3, 20, 1);
    }

    private static void refused() {
        c.promise("promise 36");
        int[][] wrong = {{-1, 0}, {1, 0}, {0, -1}, {0, 4}, {Integer.MAX_VALUE, 0}, {0, Integer.MIN_VALUE}};
        for (int[] w : wrong) {
            CastWithVows x = new CastWithVows();
            x.body(0);
            x.act(0, 3, 1);
            c.due("ran", x.count(5), 4);
            c.due("act(" + w[0] + ", " + w[1] + ")", x.act(w[0], w[1], 5), 0);
            c.due("no trace then", x.count(5), 0);
            c.due("no trace then", x.trace(0), CastWithVows.BAD);
        }
    }

    private static void counts() {
        c.promise("promise 44");
        CastWithVows x = new CastWithVows();
        x.bell(1);
        x.bell(2);
        x.vow(0, 1);
        x.vow(0, 1);
        x.vow(1, 1);
        x.feed(1);
        x.mend(0, 0, 5);
        x.mend(0, 0, 6);
        x.mend(0, 0, 7);
        x.undo();
        for (int i = 0; i < 5; i++) {
            x.body(7);
        }
        x.act(0, 3, 0);
        int[] want = {2, 3, 1, 2, 5, 14};
        for (int what = 0; what <= 5; what++) {
            c.due("count(" + what + ")", x.count(what), want[what]);
        }
        c.due("count(6)", x.count(6), CastWithVows.BAD);
        c.due("count(-1)", x.count(-1), CastWithVows.BAD);
    }
}
