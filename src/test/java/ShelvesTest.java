/** Promises 38 to 43: what shelves hold, rows, their elements, what is taken for a sound. */
public final class ShelvesTest {
    private static final Check c = new Check();

    public static void main(String[] args) {
        keeps();
        rows();
        puts();
        shifts();
        taken();
        c.end();
    }

    private static void keeps() {
        c.promise("promise 38");
        CastWithVows x = new CastWithVows();
        x.body(2);
        c.due("a sound", x.keep(5, 0), 1);
        c.due("its kind", x.taken(5, 0), 2);
        c.due("body 1", x.keep(5, 1), CastWithVows.BAD);
        c.due("body -2", x.keep(5, -2), CastWithVows.BAD);
        c.due("shelf 6", x.keep(6, 0), CastWithVows.BAD);
        c.due("shelf -1", x.keep(-1, -1), CastWithVows.BAD);
        c.due("still there", x.taken(5, 0), 2);
        c.due("nothing", x.keep(5, -1), 1);
        c.due("nothing is there", x.taken(5, 0), -11);
        x.row(5, 0, 3);
        c.due("in a row's place", x.keep(5, 0), 1);
        c.due("no row any more", x.put(5, 0, 1), -12);
        x.row(5, 0, 3);
        c.due("in a sound's place", x.put(5, 0, 1), 1);
        c.due("no sound any more", x.taken(5, 0), -12);
    }

    private static void rows() {
        c.promise("promise 39");
        CastWithVows x = new CastWithVows();
        c.due("shelf 6", x.row(6, 0, 1), CastWithVows.BAD);
        c.due("shelf -1", x.row(-1, 0, -1), CastWithVows.BAD);
        c.due("sort 5", x.row(0, 5, -1), CastWithVows.BAD);
        c.due("sort -1", x.row(0, -1, 1), CastWithVows.BAD);
        c.due("n 61", x.row(0, 0, 61), CastWithVows.BAD);
        c.due("n -1", x.row(0, 0, -1), -14);
        c.due("least n", x.row(0, 4, Integer.MIN_VALUE), -14);
        c.due("still nothing", x.put(0, 0, 0), -11);
        for (int sort = 0; sort < 5; sort++) {
            c.due("row", x.row(0, sort, 60), 1);
            c.due("0 at first", x.element(0, 59), 0);
            x.put(0, 59, 1);
            c.due("anew", x.row(0, sort, 60), 1);
            c.due("0 at first", x.element(0, 59), 0);
            x.put(0, 0, 1);
            c.due("refused", x.row(0, sort, 61), CastWithVows.BAD);
            c.due("refused", x.row(0, sort, -1), -14);
            c.due("changes nothing", x.element(0, 0), 1);
        }
        c.due("empty", x.row(0, 0, 0), 1);
        c.due("no place", x.put(0, 0, 1), -13);
    }

    private static void puts() {
        c.promise("promises 40, 41");
        CastWithVows x = new CastWithVows();
        x.body(0);
        x.keep(1, 0);
        c.due("shelf 6", x.put(6, 0, 1), CastWithVows.BAD);
        c.due("shelf -1", x.put(-1, 0, 1), CastWithVows.BAD);
        c.due("nothing", x.put(0, -1, 1), -11);
        c.due("a sound", x.put(1, -1, 1), -12);
        c.due("shelf 6", x.element(6, 0), Long.MIN_VALUE);
        c.due("shelf -1", x.element(-1, 0), Long.MIN_VALUE);
        c.due("nothing", x.element(0, 0), Long.MIN_VALUE);
        c.due("a sound", x.element(1, 0), Long.MIN_VALUE);
        long[][] kept = {
            {-1, 0x80, 0x1234567890L, Long.MIN_VALUE, 256, 127},
            {-1, -128, -112, 0, 0, 127},
            {-1, 128, 30864, 0, 256, 127},
            {-1, 128, 878082192, 0, 256, 127},
            {-1, 128, 0x1234567890L, Long.MIN_VALUE, 256, 127},
            {1, 1, 1, 1, 1, 1},
        };
        for (int sort = 0; sort < 5; sort++) {
            x.row(0, sort, 3);
            for (int i = 0; i < kept[0].length; i++) {
                c.due("put", x.put(0, 2, kept[0][i]), 1);
                c.due("element of sort " + sort, x.element(0, 2), kept[sort + 1][i]);
                c.due("put", x.put(0, 2, 0), 1);
                c.due("element of sort " + sort, x.element(0, 2), 0);
            }
            for (int i : new int[] {-1, 3, Integer.MIN_VALUE, Integer.MAX_VALUE}) {
                c.due("place " + i, x.put(0, i, 1), -13);
                c.due("place " + i, x.element(0, i), Long.MIN_VALUE);
            }
        }
    }

    private static void row(CastWithVows x, int shelf, long... want) {
        for (int i = 0; i < want.length; i++) {
            c.due("element(" + shelf + ", " + i + ")", x.element(shelf, i), want[i]);
        }
    }

    private static void shifts() {
        c.promise("promise 42");
        CastWithVows x = new CastWithVows();
        x.body(0);
        Check.lay(x, 0, 2, 1, 2, 3, 4, 5);
        Check.lay(x, 1, 2, 10, 20, 30);
        c.due("to another", x.shift(0, 1, 1, 0, 2), 2);
        row(x, 1, 2, 3, 30);
        row(x, 0, 1, 2, 3, 4, 5);
        c.due("to the same, upward", x.shift(0, 0, 0, 1, 4), 4);
        row(x, 0, 1, 1, 2, 3, 4);
        c.due("to the same, downward", x.shift(0, 1, 0, 0, 4), 4);
        row(x, 0, 1, 2, 3, 4, 4);
        c.due("none", x.shift(0, 5, 1, 3, 0), 0);
        c.due("none from beyond", x.shift(0, 6, 1, 0, 0), -13);
        c.due("too many", x.shift(0, 3, 1, 0, 3), -13);
        c.due("too many there", x.shift(0, 0, 1, 1, 3), -13);
        c.due("i -1", x.shift(0, -1, 1, 0, 1), -13);
        c.due("j -1", x.shift(0, 0, 1, -1, 1), -13);
        c.due("n -1", x.shift(0, 0, 1, 0, -1), -13);
        c.due("far", x.shift(0, Integer.MAX_VALUE, 1, 0, 1), -13);
        c.due("far", x.shift(0, 1, 1, 0, Integer.MAX_VALUE), -13);
        c.due("far", x.shift(0, 0, 1, Integer.MIN_VALUE, Integer.MIN_VALUE), -13);
        row(x, 1, 2, 3, 30);
        x.row(2, 3, 3);
        c.due("unlike sorts", x.shift(0, -1, 2, 0, 1), -12);
        x.keep(3, 0);
        c.due("a sound", x.shift(0, 0, 3, 0, 1), -12);
        c.due("a sound", x.shift(3, 0, 0, 0, 1), -12);
        c.due("two sounds", x.shift(3, 0, 3, 0, 0), -12);
        c.due("nothing", x.shift(4, 0, 3, 0, 1), -11);
        c.due("nothing", x.shift(3, 0, 4, 0, 1), -11);
        c.due("nothing", x.shift(4, -1, 4, 0, 1), -11);
        c.due("shelf 6", x.shift(6, 0, 4, 0, 1), CastWithVows.BAD);
        c.due("shelf -1", x.shift(4, 0, -1, 0, 1), CastWithVows.BAD);
        Check.lay(x, 4, 4, 1, 0, 1);
        x.row(5, 4, 3);
        c.due("booleans", x.shift(4, 0, 5, 0, 3), 3);
        row(x, 5, 1, 0, 1);
    }

    private static void taken() {
        c.promise("promise 43");
        CastWithVows x = new CastWithVows();
        int[] unders = {0x01, 0x03, 0x05, 0x0d, 0x13, 0x2d, 0x41, 0x93};
        for (int kind = 0; kind < 8; kind++) {
            x.body(kind);
            x.keep(0, kind);
            for (int k = 0; k < 8; k++) {
                c.due("kind " + kind + " for " + k, x.taken(0, k), (unders[kind] >> k & 1) == 1 ? kind : -12);
            }
        }
        c.due("kind 8", x.taken(0, 8), CastWithVows.BAD);
        c.due("kind -1", x.taken(1, -1), CastWithVows.BAD);
        c.due("shelf 6", x.taken(6, 0), CastWithVows.BAD);
        c.due("nothing", x.taken(1, 0), -11);
        x.row(1, 0, 1);
        c.due("a row", x.taken(1, 0), -12);
    }
}
