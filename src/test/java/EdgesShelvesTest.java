/** The edges of bodies, acts and shelves, sentence by sentence: Terms 5, promises 35 to 44. */
public final class EdgesShelvesTest {
    private static final int BAD = CastWithVows.BAD, FULL = CastWithVows.FULL;
    private static final Check c = new Check();

    public static void main(String[] args) {
        bodies();
        noSuchAct();
        actsWrap();
        actsByNumber();
        traceOfLatest();
        keeps();
        rows();
        lowestBits();
        places();
        shiftPlaces();
        shiftOverlaps();
        shiftSorts();
        shiftRefused();
        taken();
        counts();
        c.end();
    }

    // ---- bodies, acts

    private static void bodies() {
        c.promise("BODIES 0 .. 49, of KINDS 0 .. 7: its number. BAD, FULL");
        CastWithVows x = new CastWithVows();
        for (int kind : new int[] {-1, 8, 9, Integer.MIN_VALUE, Integer.MAX_VALUE}) {
            c.due("kind " + kind, x.body(kind), BAD);
        }
        c.due("none", x.count(4), 0);
        for (int i = 0; i <= 49; i++) {
            c.due("body " + i, x.body(7 - i % 8), i);
            c.due("how many", x.count(4), i + 1);
        }
        c.due("a 51st", x.body(0), FULL);
        c.due("a 51st", x.body(7), FULL);
        c.due("BAD ahead of FULL", x.body(-1), BAD);
        c.due("BAD ahead of FULL", x.body(8), BAD);
        c.due("how many", x.count(4), 50);
        c.due("body 49 acts", x.act(49, 2, 0), 49);
        c.due("body 50 does not", x.act(50, 2, 0), 0);
        c.due("body 49 is kept", x.keep(0, 49), 1);
        c.due("body 50 is not", x.keep(0, 50), BAD);
    }

    private static void noSuchAct() {
        c.promise("act: 0, and no TRACE then: no such SOUND, ACT");
        int[] far = {Integer.MIN_VALUE, -1, 2, 50, Integer.MAX_VALUE};
        for (int body : far) {
            noTrace(body, 0);
        }
        for (int act : new int[] {Integer.MIN_VALUE, -1, 4, 5, Integer.MAX_VALUE}) {
            noTrace(0, act);
            noTrace(1, act);
        }
        noTrace(2, 4);
        CastWithVows none = new CastWithVows();
        c.due("no bodies", none.act(0, 0, 5), 0);
        c.due("no trace", none.trace(0), BAD);
        c.due("none ran", none.count(5), 0);
    }

    private static void noTrace(int body, int act) {
        CastWithVows x = new CastWithVows();
        x.body(7);
        x.body(0);
        x.act(0, 3, 1);
        c.due("fourteen ran", x.count(5), 14);
        c.due("the first", x.trace(0), 81);
        c.due("act(" + body + ", " + act + ", 9)", x.act(body, act, 9), 0);
        c.due("none ran", x.count(5), 0);
        for (int i = 0; i <= 24; i++) {
            c.due("trace(" + i + ")", x.trace(i), BAD);
        }
        c.due("bodies stay", x.count(4), 2);
        c.due("an act behind it", x.act(1, 0, 9), 10);
        c.due("one ran", x.count(5), 1);
    }

    private static void actsWrap() {
        c.promise("x (an int that wraps)");
        CastWithVows x = new CastWithVows();
        for (int kind = 0; kind < 8; kind++) {
            x.body(kind);
        }
        int most = Integer.MAX_VALUE;
        int least = Integer.MIN_VALUE;
        c.due("SOUND 0 sounds", x.act(0, 0, most), most);
        c.due("SOUND 0 keeps", x.act(0, 1, most), -2);
        c.due("SOUND 0 keeps", x.act(0, 1, least), 0);
        c.due("SOUND 0 keeps", x.act(0, 1, 1 << 30), least);
        c.due("SOUND 0 tells", x.act(0, 3, most), -3);
        c.due("VOW 1 sounds", x.act(1, 0, most), least + 3);
        c.due("VOW 1 sounds", x.act(1, 0, most - 4), most);
        c.due("BEAT 2 keeps", x.act(2, 1, (1 << 30) - 2), least);
        c.due("OCTAVE 3 casts", x.act(3, 2, most), (most ^ 3) * 3);
        c.due("OCTAVE 3 keeps: x + 1 wraps", x.act(3, 1, most), -6);
        c.due("WEDDING 4 casts", x.act(4, 2, least), (least ^ 4) - 9);
        c.due("WIDOWS 5 tells", x.act(5, 3, most), (-10 - 12) ^ 5);
        c.due("CRACK 6 sounds", x.act(6, 0, most), (most + 6) * 2);
        c.due("CHILD 7 keeps", x.act(7, 1, most), (most + 10) * 2 + (2 ^ 7) - 12);
        c.due("CHILD 7 tells", x.act(7, 3, least), (least + 10) * 2 + (2 ^ 7) - 12 - ((1 ^ 7) - 12) - 1);
        c.due("negative x", x.act(0, 2, -1), -1);
        c.due("negative x", x.act(3, 2, -1), (-1 ^ 3) * 3);
    }

    private static void actsByNumber() {
        c.promise("n its number: 49 at most");
        CastWithVows x = new CastWithVows();
        for (int i = 0; i < 50; i++) {
            x.body(i < 42 ? 0 : i - 42);
        }
        c.due("SOUND 42 sounds", x.act(42, 0, 1), 43);
        c.due("VOW 43 sounds", x.act(43, 0, 1), 47);
        c.due("BEAT 44 keeps", x.act(44, 1, 1), -90);
        c.due("OCTAVE 45 casts", x.act(45, 2, 1), 44 * 3);
        c.due("OCTAVE 45 keeps", x.act(45, 1, 1), -94);
        c.due("WEDDING 46 casts", x.act(46, 2, 1), 47 - 51);
        c.due("WIDOWS 47 tells", x.act(47, 3, 1), (-98 - 46 * 3) ^ 5);
        c.due("CRACK 48 sounds", x.act(48, 0, 1), 98);
        c.due("CHILD 49 keeps", x.act(49, 1, 1), 53 * 2 + (2 ^ 49) - 54);
        c.due("SOUND 0 keeps", x.act(0, 1, 0), 0);
    }

    private static void traceOfLatest() {
        c.promise("THE TRACE: numbers of the bodies that ran in the latest act(), as they began");
        CastWithVows x = new CastWithVows();
        c.due("no act yet", x.trace(0), BAD);
        x.body(7);
        c.due("a body is no act", x.trace(0), BAD);
        x.act(0, 3, 0);
        int[] want = {81, 2, 80, 10, 20, 1, 50, 11, 20, 1, 50, 11, 20, 1};
        for (int i = 0; i < want.length; i++) {
            c.due("trace(" + i + ")", x.trace(i), want[i]);
        }
        for (int i : new int[] {-1, 14, 23, 24, 25, Integer.MIN_VALUE, Integer.MAX_VALUE}) {
            c.due("trace(" + i + ")", x.trace(i), BAD);
        }
        x.act(0, 0, 0);
        c.due("the latest is shorter", x.count(5), 2);
        c.due("trace(0)", x.trace(0), 20);
        c.due("trace(1)", x.trace(1), 1);
        c.due("trace(2)", x.trace(2), BAD);
        x.keep(0, 0);
        x.taken(0, 0);
        x.body(0);
        c.due("it stays", x.count(5), 2);
        c.due("it stays", x.trace(0), 20);
        c.promise("each KIND, each ACT: which bodies run");
        CastWithVows y = new CastWithVows();
        for (int kind = 0; kind < 8; kind++) {
            y.body(kind);
        }
        String[] traces = {
            "1", "10 1", "11", "2 10 1 11",
            "20 1", "10 20 1", "11", "2 10 20 1 11",
            "1", "30 10 1", "11", "2 30 10 1 11",
            "1", "41 30 10 1", "40 11", "2 41 30 10 1 40 11",
            "20 1", "10 20 1", "50 11 20 1", "2 10 20 1 50 11 20 1",
            "1", "41 30 10 1", "40 11", "60 2 41 30 10 1 40 11",
            "70 1", "10 70 1", "11", "2 10 70 1 11",
            "20 1", "80 10 20 1 50 11 20 1", "50 11 20 1", "81 2 80 10 20 1 50 11 20 1 50 11 20 1",
        };
        for (int i = 0; i < traces.length; i++) {
            y.act(i / 4, i % 4, i);
            String[] numbers = traces[i].split(" ");
            c.due("bodies of kind " + i / 4 + ", act " + i % 4, y.count(5), numbers.length);
            for (int k = 0; k < numbers.length; k++) {
                c.due("trace(" + k + ") of kind " + i / 4 + ", act " + i % 4, y.trace(k), Integer.parseInt(numbers[k]));
            }
        }
    }

    // ---- shelves

    private static void keeps() {
        c.promise("SHELVES 0 .. 5 each hold nothing (at first), a SOUND, or a ROW");
        CastWithVows x = new CastWithVows();
        for (int kind = 0; kind < 6; kind++) {
            x.body(kind);
        }
        for (int shelf = 0; shelf <= 5; shelf++) {
            c.due("nothing at first", x.taken(shelf, 0), -11);
            c.due("nothing in nothing's place", x.keep(shelf, -1), 1);
            c.due("nothing still", x.taken(shelf, 0), -11);
            c.due("a SOUND", x.keep(shelf, shelf), 1);
        }
        for (int shelf = 0; shelf <= 5; shelf++) {
            c.due("its own", x.taken(shelf, 0), shelf);
            c.due("another SOUND in its place", x.keep(shelf, 5 - shelf), 1);
            c.due("is taken", x.taken(shelf, 0), 5 - shelf);
        }
        c.promise("keep: BAD");
        for (int body : new int[] {-2, 6, 50, Integer.MIN_VALUE, Integer.MAX_VALUE}) {
            c.due("body " + body, x.keep(0, body), BAD);
        }
        for (int shelf : new int[] {-1, 6, Integer.MIN_VALUE, Integer.MAX_VALUE}) {
            c.due("shelf " + shelf, x.keep(shelf, 0), BAD);
            c.due("shelf " + shelf, x.keep(shelf, -1), BAD);
        }
        c.due("it stays", x.taken(0, 0), 5);
        c.promise("one takes the place of the other");
        x.row(0, 2, 5);
        c.due("a ROW", x.element(0, 4), 0);
        c.due("no SOUND", x.taken(0, 0), -12);
        x.put(0, 4, 9);
        x.keep(0, 1);
        c.due("no ROW", x.element(0, 4), Long.MIN_VALUE);
        c.due("no ROW", x.put(0, 4, 9), -12);
        x.row(0, 2, 5);
        c.due("0 at first", x.element(0, 4), 0);
        x.keep(0, -1);
        c.due("nothing", x.element(0, 4), Long.MIN_VALUE);
        c.due("nothing", x.put(0, 4, 9), -11);
        c.due("nothing", x.taken(0, 0), -11);
        c.due("a SOUND on two shelves", x.keep(0, 2), 1);
        c.due("a SOUND on two shelves", x.keep(1, 2), 1);
        c.due("it is there", x.taken(0, 2), 2);
        c.due("and there", x.taken(1, 2), 2);
    }

    private static void rows() {
        c.promise("row: of 0 .. 60 elements, 0 at first (false): 1. BAD (sort, n above 60); -14");
        for (int sort = 0; sort <= 4; sort++) {
            for (int n : new int[] {0, 1, 2, 59, 60}) {
                CastWithVows x = new CastWithVows();
                c.due("n " + n, x.row(5, sort, n), 1);
                for (int i = 0; i < n; i++) {
                    c.due("element " + i, x.element(5, i), 0);
                    c.due("put " + i, x.put(5, i, i % 2 == 0 ? 1 : 0), 1);
                }
                for (int i = 0; i < n; i++) {
                    c.due("element " + i, x.element(5, i), i % 2 == 0 ? 1 : 0);
                }
                c.due("behind the last", x.put(5, n, 1), -13);
                c.due("behind the last", x.element(5, n), Long.MIN_VALUE);
                c.due("another in its place", x.row(5, sort, n), 1);
                c.due("0 at first", x.element(5, 0), n == 0 ? Long.MIN_VALUE : 0);
            }
        }
        CastWithVows x = new CastWithVows();
        Check.lay(x, 0, 1, 5, 6);
        for (int n : new int[] {61, 62, 1000, Integer.MAX_VALUE}) {
            c.due("n " + n, x.row(0, 1, n), BAD);
        }
        for (int n : new int[] {-1, -60, Integer.MIN_VALUE}) {
            c.due("n " + n, x.row(0, 1, n), -14);
            c.due("BAD ahead of -14, sort -1", x.row(0, -1, n), BAD);
            c.due("BAD ahead of -14, sort 5", x.row(0, 5, n), BAD);
            c.due("BAD ahead of -14, shelf -1", x.row(-1, 1, n), BAD);
            c.due("BAD ahead of -14, shelf 6", x.row(6, 1, n), BAD);
        }
        for (int sort : new int[] {-1, 5, Integer.MIN_VALUE, Integer.MAX_VALUE}) {
            c.due("sort " + sort, x.row(0, sort, 1), BAD);
        }
        for (int shelf : new int[] {-1, 6, Integer.MIN_VALUE, Integer.MAX_VALUE}) {
            c.due("shelf " + shelf, x.row(shelf, 0, 1), BAD);
        }
        c.due("it stays", x.element(0, 0), 5);
        c.due("it stays", x.element(0, 1), 6);
        c.due("nothing on another", x.put(1, 0, 1), -11);
    }

    private static void lowestBits() {
        c.promise("what is put in keeps its lowest bits (a boolean: whether it is not 0; 1 or 0)");
        long[] puts = {
            0, 1, -1, 127, 128, -128, -129, 255, 256, 32767, 32768, -32768, -32769, 65535, 65536, 2147483647L, 2147483648L,
            -2147483648L, -2147483649L, 4294967295L, 4294967296L, Long.MAX_VALUE, Long.MIN_VALUE, Long.MIN_VALUE + 1,
        };
        for (int sort = 0; sort <= 4; sort++) {
            CastWithVows x = new CastWithVows();
            x.row(0, sort, 60);
            for (int i = 0; i < puts.length; i++) {
                long v = puts[i];
                long want = sort == 0 ? (byte) v : sort == 1 ? (short) v : sort == 2 ? (int) v : sort == 3 ? v : v != 0 ? 1 : 0;
                c.due("put " + v + " in sort " + sort, x.put(0, 59 - i, v), 1);
                c.due("element of sort " + sort + " for " + v, x.element(0, 59 - i), want);
            }
        }
        int[][] wraps = {{128, -128, 128, 128, 1}, {32768, 0, -32768, 32768, 1}, {256, 0, 256, 256, 1}};
        for (int[] w : wraps) {
            for (int sort = 0; sort <= 4; sort++) {
                CastWithVows x = new CastWithVows();
                Check.lay(x, 0, sort, w[0]);
                long want = sort == 0 ? w[1] : sort == 1 ? w[2] : sort == 4 ? w[4] : w[3];
                c.due(w[0] + " in sort " + sort, x.element(0, 0), want);
            }
        }
        CastWithVows x = new CastWithVows();
        Check.lay(x, 0, 2, 1L << 31, 1L << 32);
        c.due("2 to the 31st as an int", x.element(0, 0), Integer.MIN_VALUE);
        c.due("2 to the 32nd as an int", x.element(0, 1), 0);
        Check.lay(x, 0, 4, 1L << 32, Long.MIN_VALUE);
        c.due("2 to the 32nd is not 0", x.element(0, 0), 1);
        c.due("nor is the least", x.element(0, 1), 1);
    }

    private static void places() {
        c.promise("put: BAD, -11, -12, -13; element: Long.MIN_VALUE");
        CastWithVows x = new CastWithVows();
        x.body(0);
        x.keep(1, 0);
        x.row(2, 3, 2);
        x.row(3, 3, 0);
        int[] all = {-1, 0, 1, 2, 59, 60, Integer.MIN_VALUE, Integer.MAX_VALUE};
        for (int i : all) {
            boolean there = i == 0 || i == 1;
            c.due("shelf -1, place " + i, x.put(-1, i, 1), BAD);
            c.due("shelf 6, place " + i, x.put(6, i, 1), BAD);
            c.due("nothing, place " + i, x.put(0, i, 1), -11);
            c.due("a SOUND, place " + i, x.put(1, i, 1), -12);
            c.due("two longs, place " + i, x.put(2, i, 7), there ? 1 : -13);
            c.due("no longs, place " + i, x.put(3, i, 1), -13);
            for (int shelf : new int[] {-1, 0, 1, 3, 6, Integer.MIN_VALUE, Integer.MAX_VALUE}) {
                c.due("element of shelf " + shelf + ", place " + i, x.element(shelf, i), Long.MIN_VALUE);
            }
            c.due("element of two longs, place " + i, x.element(2, i), there ? 7 : Long.MIN_VALUE);
        }
        c.due("an element may be that, too", x.put(2, 0, Long.MIN_VALUE), 1);
        c.due("an element may be that, too", x.element(2, 0), Long.MIN_VALUE);
        c.due("the next stays", x.element(2, 1), 7);
    }

    // ---- shift

    private static void row(String call, CastWithVows x, int shelf, long... want) {
        for (int i = 0; i < want.length; i++) {
            c.due(call + ": element(" + shelf + ", " + i + ")", x.element(shelf, i), want[i]);
        }
    }

    private static void shiftPlaces() {
        c.promise("shift: n elements of a ROW from i on come to another one from j on: n; -13");
        int[] edges = {-2, -1, 0, 1, 2, 3, 4, 5, 6, Integer.MIN_VALUE, Integer.MAX_VALUE};
        for (int i : edges) {
            for (int j : edges) {
                for (int n : edges) {
                    CastWithVows x = new CastWithVows();
                    Check.lay(x, 0, 2, 1, 2, 3, 4);
                    Check.lay(x, 1, 2, 10, 20, 30, 40, 50);
                    boolean there = i >= 0 && j >= 0 && n >= 0 && (long) i + n <= 4 && (long) j + n <= 5;
                    String call = "shift(0, " + i + ", 1, " + j + ", " + n + ")";
                    c.due(call, x.shift(0, i, 1, j, n), there ? n : -13);
                    long[] want = {10, 20, 30, 40, 50};
                    for (int k = 0; there && k < n; k++) {
                        want[j + k] = i + k + 1;
                    }
                    row(call, x, 1, want);
                    row(call, x, 0, 1, 2, 3, 4);
                }
            }
        }
        c.promise("shift: all 60, and none of none");
        CastWithVows x = new CastWithVows();
        x.row(0, 0, 60);
        x.row(1, 0, 60);
        x.row(2, 0, 0);
        for (int i = 0; i < 60; i++) {
            x.put(0, i, i + 1);
        }
        c.due("all", x.shift(0, 0, 1, 0, 60), 60);
        c.due("the first", x.element(1, 0), 1);
        c.due("the last", x.element(1, 59), 60);
        c.due("61", x.shift(0, 0, 1, 0, 61), -13);
        c.due("all, one on", x.shift(0, 0, 1, 1, 60), -13);
        c.due("none of none", x.shift(2, 0, 2, 0, 0), 0);
        c.due("none at the ends", x.shift(0, 60, 2, 0, 0), 0);
        c.due("none behind the end", x.shift(0, 61, 2, 0, 0), -13);
        c.due("none behind the end", x.shift(0, 0, 2, 1, 0), -13);
        c.due("one of none", x.shift(2, 0, 0, 0, 1), -13);
        c.due("one to none", x.shift(0, 0, 2, 0, 1), -13);
    }

    private static void shiftOverlaps() {
        c.promise("(or the same), as they all were before");
        for (int i = 0; i <= 5; i++) {
            for (int j = 0; j <= 5; j++) {
                for (int n = 0; n <= 5 - Math.max(i, j); n++) {
                    CastWithVows x = new CastWithVows();
                    Check.lay(x, 0, 1, 1, 2, 3, 4, 5);
                    String call = "shift(0, " + i + ", 0, " + j + ", " + n + ")";
                    c.due(call, x.shift(0, i, 0, j, n), n);
                    long[] want = {1, 2, 3, 4, 5};
                    for (int k = 0; k < n; k++) {
                        want[j + k] = i + k + 1;
                    }
                    row(call, x, 0, want);
                }
            }
        }
    }

    private static void shiftSorts() {
        c.promise("shift: -12 (no ROWS, or of unlike sorts)");
        for (int sort = 0; sort <= 4; sort++) {
            for (int other = 0; other <= 4; other++) {
                CastWithVows x = new CastWithVows();
                Check.lay(x, 0, sort, 1, 1);
                Check.lay(x, 1, other, 0, 0);
                c.due("sort " + sort + " to " + other, x.shift(0, 0, 1, 0, 2), sort == other ? 2 : -12);
                row("sort " + sort + " to " + other, x, 1, sort == other ? 1 : 0, sort == other ? 1 : 0);
                c.due("none of it", x.shift(0, 0, 1, 0, 0), sort == other ? 0 : -12);
                c.due("a place that is not there", x.shift(0, 0, 1, 1, 2), sort == other ? -13 : -12);
            }
        }
    }

    private static void shiftRefused() {
        c.promise("shift: BAD, -11 (either), -12, -13");
        CastWithVows x = new CastWithVows();
        x.body(0);
        x.keep(1, 0);
        Check.lay(x, 2, 0, 1, 2);
        Check.lay(x, 3, 2, 3, 4);
        int[] wrong = {-1, 6, Integer.MIN_VALUE, Integer.MAX_VALUE};
        for (int shelf : wrong) {
            for (int other = 0; other <= 5; other++) {
                c.due("BAD first, from " + shelf + " to " + other, x.shift(shelf, -1, other, 0, 1), BAD);
                c.due("BAD first, from " + other + " to " + shelf, x.shift(other, 0, shelf, -1, 1), BAD);
            }
            c.due("BAD, both", x.shift(shelf, 0, shelf, 0, 0), BAD);
        }
        int[][] due = {
            {-11, -11, -11, -11},
            {-11, -12, -12, -12},
            {-11, -12, 1, -12},
            {-11, -12, -12, 1},
        };
        for (int from = 0; from <= 3; from++) {
            for (int to = 0; to <= 3; to++) {
                String which = "from " + from + " to " + to;
                c.due(which, x.shift(from, 0, to, 0, 1), due[from][to]);
                int far = due[from][to] == 1 ? -13 : due[from][to];
                c.due(which + ", i -1", x.shift(from, -1, to, 0, 1), far);
                c.due(which + ", j 3", x.shift(from, 0, to, 3, 0), far);
                c.due(which + ", n -1", x.shift(from, 0, to, 0, -1), far);
                c.due(which + ", n far", x.shift(from, 1, to, 1, Integer.MAX_VALUE), far);
            }
        }
        row("all stay", x, 2, 1, 2);
        row("all stay", x, 3, 3, 4);
    }

    // ---- taken, counts

    private static void taken() {
        c.promise("taken for a SOUND of KIND k (0 .. 7), or under it: its KIND. BAD, -11, -12");
        int[] above = {-1, 0, 0, 2, 1, 3, 0, 4};
        CastWithVows x = new CastWithVows();
        for (int kind = 0; kind <= 7; kind++) {
            x.body(kind);
            x.keep(5, kind);
            for (int k = 0; k <= 7; k++) {
                boolean under = false;
                for (int up = kind; up >= 0; up = above[up]) {
                    under |= up == k;
                }
                c.due("kind " + kind + " for " + k, x.taken(5, k), under ? kind : -12);
            }
            for (int k : new int[] {-1, 8, Integer.MIN_VALUE, Integer.MAX_VALUE}) {
                c.due("kind " + kind + " for " + k, x.taken(5, k), BAD);
            }
        }
        for (int k : new int[] {-1, 8, Integer.MIN_VALUE, Integer.MAX_VALUE}) {
            c.due("BAD ahead of -11, for " + k, x.taken(0, k), BAD);
        }
        for (int shelf : new int[] {-1, 6, Integer.MIN_VALUE, Integer.MAX_VALUE}) {
            c.due("shelf " + shelf, x.taken(shelf, 0), BAD);
        }
        for (int k = 0; k <= 7; k++) {
            c.due("nothing for " + k, x.taken(0, k), -11);
            x.row(1, k % 5, k);
            c.due("a ROW for " + k, x.taken(1, k), -12);
        }
    }

    private static void counts() {
        c.promise("count: BAD");
        CastWithVows x = new CastWithVows();
        for (int what : new int[] {-1, 6, 7, Integer.MIN_VALUE, Integer.MAX_VALUE}) {
            c.due("what " + what, x.count(what), BAD);
        }
        c.promise("count: each its own");
        int[] want = new int[6];
        for (int round = 0; round < 3; round++) {
            x.bell(40);
            want[0]++;
            counted(x, want);
            x.vow(0, 1);
            want[1]++;
            counted(x, want);
            x.feed('w');
            want[2]++;
            counted(x, want);
            x.mend(0, 0, round);
            want[3]++;
            counted(x, want);
            x.body(round);
            want[4]++;
            counted(x, want);
            x.act(round, 3, 0);
            want[5] = round == 1 ? 5 : round == 2 ? 5 : 4;
            counted(x, want);
        }
        x.undo();
        want[3]--;
        counted(x, want);
        x.law();
        want[2] = 0;
        counted(x, want);
        x.redo();
        want[3]++;
        counted(x, want);
    }

    private static void counted(CastWithVows x, int[] want) {
        for (int what = 0; what <= 5; what++) {
            c.due("count(" + what + ")", x.count(what), want[what]);
        }
    }
}
