import java.util.ArrayList;
import java.util.List;

/**
 * "What is answered so changes nothing": each refused call with its answer, on an object that is
 * then read whole and held against a twin that was never refused; and each question likewise.
 */
public final class RefusedTest {
    private static final int BAD = CastWithVows.BAD, NOT = CastWithVows.NOT, FULL = CastWithVows.FULL;
    private static final int STATE = CastWithVows.STATE, VOID = CastWithVows.VOID;
    private static final int MIN = Integer.MIN_VALUE, MAX = Integer.MAX_VALUE;
    private static final int[] NO_SHELF = {-1, 6, MIN, MAX};
    private static final int[] NO_DH = {-1, 24, 99824, 99900, MIN, MAX};
    private static final int[] NO_HD = {-1, 2400, MIN, MAX};
    private static final Check c = new Check();

    private interface Call {
        long on(CastWithVows x);
    }

    private interface Made {
        CastWithVows anew();
    }

    private static Made made;
    private static List<Long> untouched;
    private static int calls;

    public static void main(String[] args) {
        on(RefusedTest::rich);
        bellsAndVows();
        tapeAndLaw();
        sounds();
        heard();
        casting();
        deeds();
        acts();
        shelves();
        questions();
        on(RefusedTest::full);
        whereAllIsFull();
        on(CastWithVows::new);
        whereNothingIs();
        c.that("the calls were many", calls > 500);
        c.end();
    }

    // ---- objects

    private static CastWithVows rich() {
        CastWithVows x = Check.bells(40, 50, 60);
        x.vow(0, 3);
        x.vow(1, 4);
        x.vow(0, 5);
        x.vow(2, 6);
        x.mend(2, 4, 3);
        x.mend(1, 1, 7);
        x.mend(3, 5, 4);
        x.mend(0, 7, 5);
        x.mend(0, 0, 41);
        x.undo();
        x.undo();
        Check.feed(x, "k?0;d-w");
        x.pass(5);
        x.breaks(0);
        x.pass(2);
        x.keeps(0);
        x.breaks(1);
        x.ring(0, 12);
        x.image();
        x.pass(3);
        x.breaks(2);
        x.ring(0, 12);
        x.feed('w');
        x.feed('+');
        for (int kind : new int[] {0, 4, 7}) {
            x.body(kind);
        }
        x.keep(1, 1);
        Check.lay(x, 2, 0, 0, 9, 6);
        Check.lay(x, 3, 1, 40, -1);
        Check.lay(x, 4, 2, 7, 8, 9);
        Check.lay(x, 5, 4, 1, 0);
        x.act(2, 3, 5);
        return x;
    }

    /** Six bells, twelve vows, the last day, 120 bytes, 50 bodies, 40 changes. */
    private static CastWithVows full() {
        CastWithVows x = Check.bells(0, 10, 20, 30, 40, 50);
        for (int v = 0; v < 12; v++) {
            x.vow(v < 6 ? 0 : v - 6, v % 9 + 1);
        }
        for (int i = 0; i < 10; i++) {
            x.pass(99);
        }
        x.breaks(3);
        x.pass(8);
        x.breaks(4);
        for (int i = 1; i <= 41; i++) {
            x.mend(0, 0, i);
        }
        Check.lay(x, 0, 0, 0, 1, 0);
        Check.lay(x, 1, 1, 41);
        for (int i = 0; i < 50; i++) {
            x.body(i % 8);
        }
        for (int i = 0; i < 120; i++) {
            x.feed(i == 0 ? '-' : i % 2 == 0 ? '+' : 'w');
        }
        x.act(49, 1, 3);
        return x;
    }

    /**
     * All that can be asked of it, and at the end all that can only be seen by changing it. With
     * what makes an object these are fewer than 512 calls.
     */
    private static List<Long> read(CastWithVows x) {
        List<Long> all = new ArrayList<>();
        for (int what = 0; what <= 5; what++) {
            all.add((long) x.count(what));
        }
        int bells = all.get(0).intValue();
        int vows = all.get(1).intValue();
        for (int b = 0; b < bells; b++) {
            all.add((long) x.of(b, 1));
        }
        for (int v = 0; v < vows; v++) {
            all.add(100L * x.of(v, 2) + 10 * x.of(v, 3) + x.of(v, 4));
        }
        for (int i = 0; i <= 14; i++) {
            all.add((long) x.trace(i));
        }
        for (int shelf = 0; shelf <= 5; shelf++) {
            all.add((long) x.taken(shelf, 0));
            for (int i = 0; i <= 3; i++) {
                all.add(x.element(shelf, i));
            }
        }
        numbers(x, bells, vows, all);
        all.add((long) x.law());
        numbers(x, bells, 0, all);
        all.add((long) x.redo());
        for (int i = 0; i < 41; i++) {
            all.add((long) x.undo());
        }
        all.add((long) x.back());
        numbers(x, bells, vows, all);
        all.add((long) x.redo());
        return all;
    }

    private static void numbers(CastWithVows x, int bells, int vows, List<Long> all) {
        for (int b = 0; b < bells; b++) {
            all.add((long) x.pitch(b, 712, 0));
        }
        for (int v = 0; v < vows; v++) {
            all.add(1000L * x.of(v, 5) + x.of(v, 6));
        }
        all.add((long) x.of(0, 7));
        for (int what = 0; what <= 4; what++) {
            all.add((long) x.led(what));
        }
    }

    private static void on(Made how) {
        made = how;
        untouched = read(made.anew());
    }

    /** The call answers this, and what it is asked of is as if it had not been. */
    private static void due(String name, long want, Call call) {
        calls++;
        c.promise("the answer");
        CastWithVows x = made.anew();
        c.due(name, call.on(x), want);
        c.promise("What is answered so changes nothing");
        c.that(name + " changes nothing", read(x).equals(untouched));
        CastWithVows y = made.anew();
        call.on(y);
        c.promise("the answer, asked twice");
        c.due(name, call.on(y), want);
    }

    /** A question: it changes nothing, whatever it answers. */
    private static void question(String name, Call call) {
        due(name, call.on(made.anew()), call);
    }

    // ---- refused

    private static void bellsAndVows() {
        for (int tone : new int[] {-1, 100, MIN, MAX}) {
            due("bell(" + tone + ")", BAD, x -> x.bell(tone));
        }
        for (int bell : new int[] {-1, 3, MIN, MAX}) {
            due("vow(" + bell + ", 1)", BAD, x -> x.vow(bell, 1));
        }
        for (int weight : new int[] {0, 10, MIN, MAX}) {
            due("vow(0, " + weight + ")", BAD, x -> x.vow(0, weight));
        }
        for (int shelf : NO_SHELF) {
            due("vows(" + shelf + ", 0, 1)", BAD, x -> x.vows(shelf, 0, 1));
        }
        for (int n : new int[] {0, 13, MIN, MAX}) {
            due("vows(2, 0, " + n + ")", BAD, x -> x.vows(2, 0, n));
        }
        for (int shelf : new int[] {1, 3, 4, 5}) {
            due("vows(" + shelf + ", 0, 1)", -12, x -> x.vows(shelf, 0, 1));
        }
        due("vows(0, 0, 1)", 0, x -> x.vows(0, 0, 1));
        for (int i : new int[] {-1, 0, 1, 2, 3, MIN, MAX}) {
            due("vows(2, " + i + ", 12), a BY that is not so, or the end", 0, x -> x.vows(2, i, 12));
        }
        int[][] out = {{-1, 100}, {0, 25}, {-1, 3}, {0, 10}, {-1, 6}, {-1, 1000}, {-1, 1000}, {-1, 13}};
        for (int what = 0; what <= 7; what++) {
            int w = what;
            for (int v : new int[] {out[what][0], out[what][1], MIN, MAX}) {
                due("mend(0, " + w + ", " + v + ")", BAD, x -> x.mend(0, w, v));
            }
            for (int number : new int[] {-1, what == 7 ? 1 : what < 2 ? 3 : 4, MIN, MAX}) {
                due("mend(" + number + ", " + w + ", 1)", BAD, x -> x.mend(number, w, 1));
                due("of(" + number + ", " + w + ")", BAD, x -> x.of(number, w));
            }
        }
        for (int what : new int[] {-1, 8, 9, 10, 11, 12, MIN, MAX}) {
            due("mend(0, " + what + ", 1)", BAD, x -> x.mend(0, what, 1));
        }
        for (int what : new int[] {-1, 8, 9, 12, MIN, MAX}) {
            due("of(0, " + what + ")", BAD, x -> x.of(0, what));
        }
        due("of(4, 10)", BAD, x -> x.of(4, 10));
        due("of(1, 11)", BAD, x -> x.of(1, 11));
    }

    private static void tapeAndLaw() {
        for (int letter : new int[] {-1, 256, MIN, MAX}) {
            due("feed(" + letter + ")", BAD, x -> x.feed(letter));
        }
        c.promise("law: THE TAPE is empty then, and THE LAW stays as it was");
        CastWithVows x = rich();
        CastWithVows y = rich();
        c.due("w+ ends too early", x.law(), -102);
        c.due("the tape is empty", x.count(2), 0);
        x.feed('w');
        x.feed('+');
        c.that("but for that nothing has changed", read(x).equals(read(y)));
        for (int vow : new int[] {-1, 4, MIN, MAX}) {
            due("puts(" + vow + ", 0)", VOID, z -> z.puts(vow, 0));
        }
        for (int dh : NO_DH) {
            due("puts(0, " + dh + ")", VOID, z -> z.puts(0, dh));
        }
    }

    private static void sounds() {
        for (int what : new int[] {-1, 2, MIN, MAX}) {
            due("pitch(0, 0, " + what + ")", VOID, x -> x.pitch(0, 0, what));
            due("chime(7, 0, " + what + ")", BAD, x -> x.chime(7, 0, what));
            due("win(0, " + what + ")", BAD, x -> x.win(0, what));
        }
        for (int bell : new int[] {-1, 3, MIN, MAX}) {
            due("pitch(" + bell + ", 0, 0)", VOID, x -> x.pitch(bell, 0, 0));
            due("days(" + bell + ", 0, 0)", BAD, x -> x.days(bell, 0, 0));
        }
        for (int what : new int[] {-1, 4, MIN, MAX}) {
            due("town(0, " + what + ")", BAD, x -> x.town(0, what));
        }
        for (int ab : new int[] {-1, 0, 3, 11, 13, 22, 30, 33, MIN, MAX}) {
            due("beats(" + ab + ", 0)", BAD, x -> x.beats(ab, 0));
        }
        for (int set : new int[] {-1, 8, MIN, MAX}) {
            due("chime(" + set + ", 0, 0)", BAD, x -> x.chime(set, 0, 0));
        }
        for (int set : new int[] {0, 1, 2, 4}) {
            due("chime(" + set + ", 0, 1)", NOT, x -> x.chime(set, 0, 1));
        }
        for (int n : new int[] {-1, 1000, MIN, MAX}) {
            due("days(0, 0, " + n + ")", BAD, x -> x.days(0, 0, n));
        }
        for (int one : new int[] {-2, 6, MIN, MAX}) {
            due("fault(" + one + ", 0)", BAD, x -> x.fault(one, 0));
        }
        for (int v : new int[] {-1, 24, MIN, MAX}) {
            due("silent(" + v + ", 0)", BAD, x -> x.silent(v, 0));
        }
        for (int v : new int[] {-1, 100, MIN, MAX}) {
            due("silent(0, " + v + ")", BAD, x -> x.silent(0, v));
        }
        for (int dh : NO_DH) {
            due("pitch(0, " + dh + ", 0)", VOID, x -> x.pitch(0, dh, 0));
            due("town(" + dh + ", 0)", BAD, x -> x.town(dh, 0));
            due("beats(1, " + dh + ")", BAD, x -> x.beats(1, dh));
            due("chime(7, " + dh + ", 0)", BAD, x -> x.chime(7, dh, 0));
            due("days(0, " + dh + ", 1)", BAD, x -> x.days(0, dh, 1));
            due("fault(0, " + dh + ")", BAD, x -> x.fault(0, dh));
            due("win(" + dh + ", 0)", BAD, x -> x.win(dh, 0));
        }
        due("town(0, 1)", NOT, x -> x.town(0, 1));
        due("days(1, 99800, 0)", NOT, x -> x.days(1, 99800, 0));
        due("win(99800, 1)", 14, x -> x.win(99800, 1));
    }

    private static void heard() {
        for (int bell : new int[] {-1, 3, MIN, MAX}) {
            due("heard(" + bell + ", 40, 0, 0)", BAD, x -> x.heard(bell, 40, 0, 0));
            due("judge(3, " + bell + ", 0)", BAD, x -> x.judge(3, bell, 0));
            due("broke(3, " + bell + ", 0, 0)", BAD, x -> x.broke(3, bell, 0, 0));
        }
        for (int hd : NO_HD) {
            due("heard(0, 40, " + hd + ", 0)", BAD, x -> x.heard(0, 40, hd, 0));
            due("strike(3, " + hd + ", 0)", BAD, x -> x.strike(3, hd, 0));
        }
        for (int dh : NO_DH) {
            due("judge(3, 0, " + dh + ")", BAD, x -> x.judge(3, 0, dh));
            due("broke(3, 0, " + dh + ", 0)", BAD, x -> x.broke(3, 0, dh, 0));
        }
        for (int what : new int[] {-1, 4, MIN, MAX}) {
            due("heard(0, 40, 0, " + what + ")", BAD, x -> x.heard(0, 40, 0, what));
        }
        for (int what : new int[] {-1, 3, MIN, MAX}) {
            due("strike(3, 0, " + what + ")", BAD, x -> x.strike(3, 0, what));
        }
        for (int what : new int[] {-1, 2, MIN, MAX}) {
            due("broke(3, 0, 0, " + what + ")", BAD, x -> x.broke(3, 0, 0, what));
        }
        for (int what : new int[] {1, 2, 3}) {
            due("heard(0, 99, 0, " + what + ")", NOT, x -> x.heard(0, 99, 0, what));
        }
        for (int shelf : NO_SHELF) {
            due("strike(" + shelf + ", 0, 0)", BAD, x -> x.strike(shelf, 0, 0));
            due("judge(" + shelf + ", 0, 0)", BAD, x -> x.judge(shelf, 0, 0));
            due("broke(" + shelf + ", 0, 0, 0)", BAD, x -> x.broke(shelf, 0, 0, 0));
        }
        for (int shelf : new int[] {0, 1, 2, 4, 5}) {
            int want = shelf == 0 ? -11 : -12;
            due("strike(" + shelf + ", 0, 0)", want, x -> x.strike(shelf, 0, 0));
            due("judge(" + shelf + ", 0, 0)", want, x -> x.judge(shelf, 0, 0));
            due("broke(" + shelf + ", 0, 0, 0)", want, x -> x.broke(shelf, 0, 0, 0));
        }
    }

    private static void casting() {
        for (int vow : new int[] {-1, 4, MIN, MAX}) {
            due("cast(" + vow + ", 0, 0)", BAD, x -> x.cast(vow, 0, 0));
        }
        for (int nh : new int[] {-1, 24, 9924, 10000, MIN, MAX}) {
            due("cast(0, " + nh + ", 0)", BAD, x -> x.cast(0, nh, 0));
        }
        for (int what : new int[] {-1, 2, MIN, MAX}) {
            due("cast(0, 0, " + what + ")", BAD, x -> x.cast(0, 0, what));
            due("drawn(1, 101, 0, " + what + ")", BAD, x -> x.drawn(1, 101, 0, what));
        }
        for (int bell : new int[] {-1, 3, MIN, MAX}) {
            due("melt(" + bell + ", 0, -1)", BAD, x -> x.melt(bell, 0, -1));
        }
        for (int vow : new int[] {-2, 4, MIN, MAX}) {
            due("melt(0, 0, " + vow + ")", BAD, x -> x.melt(0, 0, vow));
        }
        due("melt(0, 0, 1)", NOT, x -> x.melt(0, 0, 1));
        for (int dh : NO_DH) {
            due("melt(0, " + dh + ", -1)", BAD, x -> x.melt(0, dh, -1));
            due("pairs(" + dh + ")", BAD, x -> x.pairs(dh));
        }
        due("pairs(0)", NOT, x -> x.pairs(0));
        for (int nm : new int[] {-1, 0, 99, 100, 2000, 2101, MIN, MAX}) {
            due("drawn(1, " + nm + ", 0, 0)", BAD, x -> x.drawn(1, nm, 0, 0));
        }
        for (int day : new int[] {-1, 998, 999, MIN, MAX}) {
            due("drawn(1, 102, " + day + ", 0)", BAD, x -> x.drawn(1, 102, day, 0));
        }
    }

    private static void deeds() {
        for (int vow : new int[] {-1, 4, MIN, MAX}) {
            due("breaks(" + vow + ")", BAD, x -> x.breaks(vow));
            due("keeps(" + vow + ")", BAD, x -> x.keeps(vow));
        }
        due("breaks(1), broken", 0, x -> x.breaks(1));
        due("breaks(2), broken today", 0, x -> x.breaks(2));
        due("keeps(0), kept", 0, x -> x.keeps(0));
        due("keeps(2), broken today", STATE, x -> x.keeps(2));
        for (int n : new int[] {0, 100, -1, MIN, MAX}) {
            due("pass(" + n + ")", BAD, x -> x.pass(n));
        }
        for (int bell : new int[] {-1, 3, MIN, MAX}) {
            due("ring(" + bell + ", 0)", VOID, x -> x.ring(bell, 0));
        }
        for (int hour : new int[] {-1, 24, MIN, MAX}) {
            due("ring(0, " + hour + ")", VOID, x -> x.ring(0, hour));
        }
        for (int what : new int[] {-1, 5, MIN, MAX}) {
            due("led(" + what + ")", BAD, x -> x.led(what));
        }
    }

    private static void acts() {
        for (int kind : new int[] {-1, 8, MIN, MAX}) {
            due("body(" + kind + ")", BAD, x -> x.body(kind));
        }
        for (int i : new int[] {-1, 14, 24, MIN, MAX}) {
            due("trace(" + i + ")", BAD, x -> x.trace(i));
        }
        for (int body : new int[] {-2, 3, MIN, MAX}) {
            due("keep(0, " + body + ")", BAD, x -> x.keep(0, body));
            due("keep(4, " + body + ")", BAD, x -> x.keep(4, body));
        }
        c.promise("act: 0, and no TRACE then; but for that nothing changes");
        int[][] none = {{-1, 0}, {3, 0}, {MIN, 0}, {MAX, 0}, {0, -1}, {0, 4}, {0, MIN}, {0, MAX}};
        for (int[] a : none) {
            CastWithVows x = rich();
            c.due("act(" + a[0] + ", " + a[1] + ", 1)", x.act(a[0], a[1], 1), 0);
            c.due("none ran", x.count(5), 0);
            c.due("no trace", x.trace(0), BAD);
            x.act(2, 3, 5);
            c.that("but for that nothing changes", read(x).equals(untouched));
        }
        for (int what : new int[] {-1, 6, MIN, MAX}) {
            due("count(" + what + ")", BAD, x -> x.count(what));
        }
    }

    private static void shelves() {
        for (int shelf : NO_SHELF) {
            due("keep(" + shelf + ", 0)", BAD, x -> x.keep(shelf, 0));
            due("keep(" + shelf + ", -1)", BAD, x -> x.keep(shelf, -1));
            due("row(" + shelf + ", 0, 1)", BAD, x -> x.row(shelf, 0, 1));
            due("row(" + shelf + ", 0, -1)", BAD, x -> x.row(shelf, 0, -1));
            due("put(" + shelf + ", 0, 1)", BAD, x -> x.put(shelf, 0, 1));
            due("element(" + shelf + ", 0)", Long.MIN_VALUE, x -> x.element(shelf, 0));
            due("shift(" + shelf + ", 0, 4, 0, 1)", BAD, x -> x.shift(shelf, 0, 4, 0, 1));
            due("shift(4, 0, " + shelf + ", 0, 1)", BAD, x -> x.shift(4, 0, shelf, 0, 1));
            due("taken(" + shelf + ", 0)", BAD, x -> x.taken(shelf, 0));
        }
        for (int shelf = 0; shelf <= 5; shelf++) {
            int s = shelf;
            for (int v : new int[] {-1, 5, MIN, MAX}) {
                due("row(" + s + ", " + v + ", 2)", BAD, x -> x.row(s, v, 2));
            }
            for (int n : new int[] {61, MAX}) {
                due("row(" + s + ", 2, " + n + ")", BAD, x -> x.row(s, 2, n));
            }
            for (int n : new int[] {-1, MIN}) {
                due("row(" + s + ", 2, " + n + ")", -14, x -> x.row(s, 2, n));
            }
            for (int i : new int[] {-1, 3, 60, MIN, MAX}) {
                due("put(" + s + ", " + i + ", 1)", s == 0 ? -11 : s == 1 ? -12 : -13, x -> x.put(s, i, 1));
                due("element(" + s + ", " + i + ")", Long.MIN_VALUE, x -> x.element(s, i));
            }
            for (int k : new int[] {-1, 8, MIN, MAX}) {
                due("taken(" + s + ", " + k + ")", BAD, x -> x.taken(s, k));
            }
            due("taken(" + s + ", 2)", s == 0 ? -11 : -12, x -> x.taken(s, 2));
            for (int other = 0; other <= 5; other++) {
                int o = other;
                if (s != o || s < 2) {
                    due("shift(" + s + ", 0, " + o + ", 0, 1)", s == 0 || o == 0 ? -11 : -12, x -> x.shift(s, 0, o, 0, 1));
                }
            }
        }
        int[][] places = {{-1, 0, 1}, {0, -1, 1}, {0, 0, -1}, {0, 0, 4}, {1, 0, 3}, {0, 1, 3}, {4, 0, 0}, {0, 4, 0}, {MAX, 0, 1},
            {0, MAX, 1}, {1, 1, MAX}, {0, 0, MIN}, {MIN, 0, 1}, {0, MIN, 1}};
        for (int[] p : places) {
            due("shift(4, " + p[0] + ", 4, " + p[1] + ", " + p[2] + ")", -13, x -> x.shift(4, p[0], 4, p[1], p[2]));
        }
    }

    /** Calls that only ask. */
    private static void questions() {
        for (int v = 0; v <= 3; v++) {
            int i = v;
            question("puts", x -> x.puts(i, 712));
            question("cast", x -> x.cast(i, 5012, 0));
            question("cast", x -> x.cast(i, 5012, 1));
            question("melt", x -> x.melt(0, 1012, i));
            question("town", x -> x.town(1012, i));
            question("heard", x -> x.heard(0, 40, 1203, i));
            question("of", x -> x.of(i, 10));
        }
        for (int b = 0; b <= 2; b++) {
            int i = b;
            question("pitch", x -> x.pitch(i, 1012, 0));
            question("pitch", x -> x.pitch(i, 1012, 1));
            question("days", x -> x.days(i, 12, 0));
            question("days", x -> x.days(i, 12, 999));
            question("strike", x -> x.strike(3, 1203, i));
            question("judge", x -> x.judge(3, i, 1012));
            question("broke", x -> x.broke(3, i, 12, 0));
            question("broke", x -> x.broke(3, i, 12, 1));
            question("melt", x -> x.melt(i, 1012, -1));
            question("fault", x -> x.fault(i - 1, 1012));
        }
        for (int w = 0; w <= 1; w++) {
            int what = w;
            question("chime", x -> x.chime(7, 1012, what));
            question("win", x -> x.win(1012, what));
            question("drawn", x -> x.drawn(77, 2099, 900, what));
        }
        question("beats", x -> x.beats(12, 1012));
        question("silent", x -> x.silent(12, 99));
        question("pairs", x -> x.pairs(1012));
        question("trace", x -> x.trace(3));
        question("taken", x -> x.taken(1, 1));
        question("element", x -> x.element(4, 2));
        question("led", x -> x.led(2));
        question("count", x -> x.count(3));
        question("of", x -> x.of(0, 11));
    }

    private static void whereAllIsFull() {
        due("bell(1)", FULL, x -> x.bell(1));
        due("bell(-1): BAD first", BAD, x -> x.bell(-1));
        due("vow(0, 1)", FULL, x -> x.vow(0, 1));
        due("vow(6, 1): BAD first", BAD, x -> x.vow(6, 1));
        due("vow(0, 0): BAD first", BAD, x -> x.vow(0, 0));
        due("vows(0, 0, 1), none came", 0, x -> x.vows(0, 0, 1));
        due("vows(1, 0, 1)", -12, x -> x.vows(1, 0, 1));
        due("vows(0, 0, 13)", BAD, x -> x.vows(0, 0, 13));
        due("feed('w')", FULL, x -> x.feed('w'));
        due("feed(256): BAD first", BAD, x -> x.feed(256));
        due("body(0)", FULL, x -> x.body(0));
        due("body(8): BAD first", BAD, x -> x.body(8));
        due("pass(1)", STATE, x -> x.pass(1));
        due("pass(99)", STATE, x -> x.pass(99));
        due("pass(0): BAD first", BAD, x -> x.pass(0));
        due("keeps(4), broken today", STATE, x -> x.keeps(4));
        due("breaks(3), broken", 0, x -> x.breaks(3));
        due("melt(0, 0, -1)", STATE, x -> x.melt(0, 0, -1));
        due("melt(0, 0, 7), of another bell", STATE, x -> x.melt(0, 0, 7));
        due("melt(0, 0, 12): BAD first", BAD, x -> x.melt(0, 0, 12));
        due("redo()", STATE, x -> x.redo());
        due("back()", STATE, x -> x.back());
        due("broke(1, 1, 99800, 0)", NOT, x -> x.broke(1, 1, 99800, 0));
        due("judge(1, 0, 99800)", 0, x -> x.judge(1, 0, 99800));
        due("trace(24)", BAD, x -> x.trace(24));
        due("keep(0, 50)", BAD, x -> x.keep(0, 50));
    }

    private static void whereNothingIs() {
        due("vow(0, 1)", BAD, x -> x.vow(0, 1));
        due("vows(0, 0, 1), none came", 0, x -> x.vows(0, 0, 1));
        due("law()", -100, x -> x.law());
        due("puts(0, 0)", VOID, x -> x.puts(0, 0));
        due("pitch(0, 0, 0)", VOID, x -> x.pitch(0, 0, 0));
        due("town(0, 1)", NOT, x -> x.town(0, 1));
        due("town(0, 3)", NOT, x -> x.town(0, 3));
        due("beats(1, 0)", BAD, x -> x.beats(1, 0));
        due("chime(1, 0, 0)", BAD, x -> x.chime(1, 0, 0));
        due("chime(0, 0, 1)", NOT, x -> x.chime(0, 0, 1));
        due("days(0, 0, 0)", BAD, x -> x.days(0, 0, 0));
        due("heard(0, 0, 0, 0)", BAD, x -> x.heard(0, 0, 0, 0));
        due("strike(0, 0, 1)", -11, x -> x.strike(0, 0, 1));
        due("judge(0, 0, 0)", BAD, x -> x.judge(0, 0, 0));
        due("broke(0, 0, 0, 0)", BAD, x -> x.broke(0, 0, 0, 0));
        due("cast(0, 0, 0)", BAD, x -> x.cast(0, 0, 0));
        due("melt(0, 0, -1)", BAD, x -> x.melt(0, 0, -1));
        due("pairs(0)", NOT, x -> x.pairs(0));
        due("breaks(0)", BAD, x -> x.breaks(0));
        due("keeps(0)", BAD, x -> x.keeps(0));
        due("ring(0, 0)", VOID, x -> x.ring(0, 0));
        due("back()", STATE, x -> x.back());
        due("undo()", STATE, x -> x.undo());
        due("redo()", STATE, x -> x.redo());
        due("act(0, 0, 1)", 0, x -> x.act(0, 0, 1));
        due("trace(0)", BAD, x -> x.trace(0));
        due("keep(0, 0)", BAD, x -> x.keep(0, 0));
        due("put(0, 0, 1)", -11, x -> x.put(0, 0, 1));
        due("element(0, 0)", Long.MIN_VALUE, x -> x.element(0, 0));
        due("shift(0, 0, 1, 0, 0)", -11, x -> x.shift(0, 0, 1, 0, 0));
        due("taken(0, 0)", -11, x -> x.taken(0, 0));
    }
}
