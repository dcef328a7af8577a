/** The edges of bells and vows, sentence by sentence: Terms 1, promises 1 to 6, and VOWS FROM A ROW. */
public final class EdgesBellsTest {
    private static final int BAD = CastWithVows.BAD, FULL = CastWithVows.FULL, VOID = CastWithVows.VOID;
    private static final Check c = new Check();

    public static void main(String[] args) {
        emptyFoundry();
        bellsAsTheyCome();
        vowsAsTheyCome();
        ranges();
        brokenAndAgain();
        keptByTheSentence();
        keptToday();
        rowMissing();
        rowEnds();
        rowNotSo();
        rowFull();
        rowNarrowed();
        mendOfWhom();
        ofWhom();
        calls512();
        ownMemory();
        c.end();
    }

    private static void emptyFoundry() {
        c.promise("An empty foundry");
        CastWithVows x = new CastWithVows();
        c.due("a vow in no bell", x.vow(0, 1), BAD);
        c.due("tone of no bell", x.of(0, 0), BAD);
        c.due("tune of no bell", x.of(0, 1), BAD);
        for (int what = 2; what <= 6; what++) {
            c.due("of no vow, what " + what, x.of(0, what), BAD);
            c.due("mend no vow, what " + what, x.mend(0, what, 1), BAD);
        }
        c.due("kept, of no vow", x.of(0, 10), BAD);
        c.due("faithless at first", x.of(0, 7), 1);
        c.due("TODAY is day 0", x.of(0, 11), 0);
        c.due("the tape is empty: a text that ends too early", x.law(), -100);
        for (int what = 0; what <= 4; what++) {
            c.due("led(" + what + ")", x.led(what), 0);
        }
        for (int what = 0; what <= 5; what++) {
            c.due("count(" + what + ")", x.count(what), 0);
        }
        c.due("no trace", x.trace(0), BAD);
        for (int shelf = 0; shelf <= 5; shelf++) {
            c.due("shelf " + shelf + " holds nothing at first", x.put(shelf, 0, 0), -11);
        }
    }

    private static void bellsAsTheyCome() {
        c.promise("BELLS 0 .. 5, as they come; FULL: 6");
        CastWithVows x = new CastWithVows();
        for (int i = 0; i <= 5; i++) {
            c.due("not there yet", x.of(i, 0), BAD);
            c.due("bell " + i, x.bell(90 - i), i);
            c.due("its tone", x.of(i, 0), 90 - i);
            c.due("how many", x.count(0), i + 1);
        }
        c.due("a seventh", x.bell(0), FULL);
        c.due("a seventh again", x.bell(99), FULL);
        c.due("how many", x.count(0), 6);
        c.due("bell 6", x.of(6, 0), BAD);
        c.due("bell 5 stays", x.of(5, 0), 85);
        c.due("a vow in bell 5", x.vow(5, 1), 0);
        c.due("a vow in bell 6", x.vow(6, 1), BAD);
    }

    private static void vowsAsTheyCome() {
        c.promise("VOWS 0 .. 11, as they come; FULL: 12");
        CastWithVows x = Check.bells(1, 2);
        for (int i = 0; i <= 11; i++) {
            c.due("not there yet", x.of(i, 3), BAD);
            c.due("vow " + i, x.vow(i % 2, i % 9 + 1), i);
            c.due("its bell", x.of(i, 2), i % 2);
            c.due("its weight", x.of(i, 3), i % 9 + 1);
            c.due("how many", x.count(1), i + 1);
        }
        c.due("a thirteenth", x.vow(0, 1), FULL);
        c.due("a thirteenth again", x.vow(1, 9), FULL);
        c.due("how many", x.count(1), 12);
        c.due("vow 12", x.of(12, 3), BAD);
        c.due("vow 11 stays", x.of(11, 3), 3);
        c.due("vow 11 can be broken", x.breaks(11), 1);
        c.due("vow 12 cannot", x.breaks(12), BAD);
    }

    /** One number of mend(): its least and most, and what it is at first. */
    private static void range(String words, int what, int least, int most, int first) {
        c.promise(words);
        CastWithVows x = Check.bells(40, 50, 60);
        x.vow(0, 5);
        c.due("at first", x.of(0, what), first);
        int now = first;
        int[] in = {least, most, least + 1, most - 1};
        int[] out = {least - 1, most + 1, least - 100, most + 100, Integer.MIN_VALUE, Integer.MAX_VALUE};
        for (int v : in) {
            c.due("mend to " + v, x.mend(0, what, v), now);
            c.due("now", x.of(0, what), v);
            now = v;
        }
        int changes = x.count(3);
        for (int v : out) {
            c.due("mend to " + v, x.mend(0, what, v), BAD);
            c.due("still", x.of(0, what), now);
        }
        c.due("no change", x.count(3), changes);
    }

    private static void ranges() {
        range("TONE (0 .. 99)", 0, 0, 99, 40);
        range("TUNE (1 .. 24; 12 at first)", 1, 1, 24, 12);
        range("BELL: one that is there", 2, 0, 2, 0);
        range("WEIGHT (1 .. 9)", 3, 1, 9, 5);
        range("BY (0 .. 5 whose; 0 at first)", 4, 0, 5, 0);
        range("BROKEN (a day 0 .. 998; 999: never, as at first)", 5, 0, 999, 999);
        range("AGAIN (a day 0 .. 999; 999 at first)", 6, 0, 999, 999);
        range("FAITHLESS (0 .. 12; 1 at first)", 7, 0, 12, 1);
        c.promise("TONE (0 .. 99)");
        CastWithVows x = new CastWithVows();
        for (int tone : new int[] {-1, 100, Integer.MIN_VALUE, Integer.MAX_VALUE}) {
            c.due("bell(" + tone + ")", x.bell(tone), BAD);
        }
        c.due("bell(0)", x.bell(0), 0);
        c.due("bell(99)", x.bell(99), 1);
        c.promise("WEIGHT (1 .. 9)");
        for (int weight : new int[] {0, 10, -1, Integer.MIN_VALUE, Integer.MAX_VALUE}) {
            c.due("vow(0, " + weight + ")", x.vow(0, weight), BAD);
        }
        c.due("vow(0, 1)", x.vow(0, 1), 0);
        c.due("vow(1, 9)", x.vow(1, 9), 1);
        c.promise("vow: BAD, no such BELL");
        for (int bell : new int[] {-1, 2, 5, 6, Integer.MIN_VALUE, Integer.MAX_VALUE}) {
            c.due("vow(" + bell + ", 1)", x.vow(bell, 1), BAD);
        }
    }

    private static void kept(CastWithVows x, int day, boolean want) {
        c.due("puts on day " + day, x.puts(0, 100 * day), want ? 0 : -5);
        c.due("puts at the last hour of day " + day, x.puts(0, 100 * day + 23), want ? 0 : -5);
        c.due("pitch on day " + day, x.pitch(0, 100 * day, 0), want ? 40 : 35);
        c.due("broken on day " + day, x.town(100 * day, 2), want ? 0 : 1);
    }

    private static void brokenAndAgain() {
        CastWithVows x = Check.bells(40);
        x.vow(0, 5);
        c.promise("999: never, as at first");
        kept(x, 0, true);
        kept(x, 998, true);
        c.promise("A VOW is KEPT on a day, if it is less than BROKEN");
        x.mend(0, 5, 0);
        kept(x, 0, false);
        kept(x, 998, false);
        x.mend(0, 5, 1);
        kept(x, 0, true);
        kept(x, 1, false);
        x.mend(0, 5, 998);
        kept(x, 997, true);
        kept(x, 998, false);
        c.promise("BROKEN is less than AGAIN and AGAIN is no more than the day");
        x.mend(0, 5, 5);
        x.mend(0, 6, 7);
        kept(x, 4, true);
        kept(x, 5, false);
        kept(x, 6, false);
        kept(x, 7, true);
        kept(x, 998, true);
        x.mend(0, 6, 6);
        kept(x, 5, false);
        kept(x, 6, true);
        c.promise("kept again from it on, if that is behind BROKEN");
        x.mend(0, 6, 5);
        kept(x, 4, true);
        kept(x, 5, false);
        kept(x, 6, false);
        kept(x, 998, false);
        x.mend(0, 6, 0);
        kept(x, 4, true);
        kept(x, 5, false);
        x.mend(0, 6, 998);
        kept(x, 997, false);
        kept(x, 998, true);
        x.mend(0, 6, 999);
        kept(x, 998, false);
        x.mend(0, 5, 999);
        x.mend(0, 6, 0);
        kept(x, 0, true);
        kept(x, 998, true);
    }

    private static void keptByTheSentence() {
        c.promise("KEPT, for all edges of BROKEN, AGAIN and the day together");
        int[] edges = {0, 1, 2, 3, 500, 997, 998, 999};
        for (int broken : edges) {
            CastWithVows x = Check.bells(40);
            x.vow(0, 5);
            x.mend(0, 5, broken);
            for (int again : edges) {
                x.mend(0, 6, again);
                for (int day : edges) {
                    boolean want = day < broken || broken < again && again <= day;
                    int due = day > 998 ? VOID : want ? 0 : -5;
                    c.due("BROKEN " + broken + ", AGAIN " + again + ", day " + day, x.puts(0, 100 * day), due);
                }
            }
        }
    }

    private static void keptToday() {
        c.promise("of a VOW 10 whether it is KEPT TODAY");
        CastWithVows x = Check.bells(40);
        x.vow(0, 5);
        x.mend(0, 5, 1);
        x.mend(0, 6, 3);
        int[] want = {1, 0, 0, 1};
        for (int day = 0; day <= 3; day++) {
            c.due("on day " + day, x.of(0, 10), want[day]);
            c.due("TODAY", x.of(0, 11), day);
            x.pass(1);
        }
    }

    // ---- VOWS FROM A ROW

    private static void rowMissing() {
        c.promise("it ends where the row is missing");
        CastWithVows x = Check.bells(40);
        for (int shelf = 0; shelf <= 5; shelf++) {
            c.due("shelf " + shelf + " holds nothing", x.vows(shelf, 0, 12), 0);
        }
        c.due("any place of it", x.vows(0, -1, 1), 0);
        c.due("any place of it", x.vows(0, Integer.MAX_VALUE, 1), 0);
        Check.lay(x, 0, 0, 0, 1, 0);
        x.keep(0, -1);
        c.due("a row that was taken away", x.vows(0, 0, 1), 0);
        c.promise("vows: -12 (no ROW of bytes)");
        for (int sort = 1; sort <= 4; sort++) {
            x.row(1, sort, 0);
            c.due("an empty row of sort " + sort, x.vows(1, 0, 1), -12);
            Check.lay(x, 1, sort, 0, 1, 0);
            c.due("a row of sort " + sort, x.vows(1, 0, 1), -12);
            c.due("any place of it", x.vows(1, -1, 1), -12);
        }
        x.body(1);
        x.keep(1, 0);
        c.due("a SOUND", x.vows(1, 0, 1), -12);
        c.promise("vows: BAD, ahead of -12");
        c.due("n 0", x.vows(1, 0, 0), BAD);
        c.due("n 13", x.vows(1, 0, 13), BAD);
        for (int far : Check.FAR) {
            c.due("n " + far, x.vows(1, 0, far), BAD);
            c.due("shelf " + far, x.vows(far, 0, 1), BAD);
        }
        c.due("shelf -1", x.vows(-1, 0, 1), BAD);
        c.due("shelf 6", x.vows(6, 0, 1), BAD);
        c.due("none came of all that", x.count(1), 0);
    }

    private static void rowEnds() {
        c.promise("it ends where the row ends (within a three, too)");
        for (int size = 0; size <= 60; size += size < 14 ? 1 : 23) {
            for (int i = 0; i <= size + 1; i++) {
                CastWithVows x = Check.bells(40);
                x.row(0, 0, size);
                for (int k = 0; k < size; k++) {
                    x.put(0, k, (k - i) % 3 == 1 || (k - i) % 3 == -2 ? 7 : 0);
                }
                int whole = Math.min(12, Math.max(0, (size - i) / 3));
                c.due("of " + size + " bytes from " + i + " on", x.vows(0, i, 12), whole);
                c.due("so many are there", x.count(1), whole);
                c.due("the last one", x.of(whole - 1, 3), whole == 0 ? BAD : 7);
            }
        }
        c.promise("n (1 .. 12) of them");
        for (int n = 1; n <= 12; n++) {
            CastWithVows x = Check.bells(40);
            x.row(0, 0, 60);
            for (int k = 1; k < 60; k += 3) {
                x.put(0, k, 2);
            }
            c.due("n " + n, x.vows(0, 0, n), n);
        }
        c.promise("a place that is not in the row: it ends there");
        CastWithVows x = Check.bells(40);
        Check.lay(x, 0, 0, 0, 1, 0, 1, 0, 1);
        for (int i : new int[] {-1, -2, -3, -4, 4, 5, 6, 7, 60}) {
            c.due("from " + i + " on", x.vows(0, i, 12), 0);
        }
        for (int far : Check.FAR) {
            c.due("from " + far + " on", x.vows(0, far, 12), 0);
        }
        c.due("from 3 on, no weight", x.vows(0, 3, 1), 0);
        c.due("none came", x.count(1), 0);
    }

    private static void rowNotSo() {
        c.promise("it ends where one is not so: those ahead came");
        int[][] wrong = {
            {-1, 1, 0}, {2, 1, 0}, {6, 1, 0}, {-128, 1, 0}, {127, 1, 0}, {0, 0, 0}, {0, 10, 0}, {0, -1, 0}, {0, 127, 0},
            {0, 1, -1}, {0, 1, 6}, {0, 1, -128}, {0, 1, 127},
        };
        for (int[] w : wrong) {
            for (int ahead = 0; ahead <= 2; ahead++) {
                CastWithVows x = Check.bells(40, 50);
                x.row(0, 0, 12);
                for (int k = 0; k < 4; k++) {
                    for (int j = 0; j < 3; j++) {
                        x.put(0, 3 * k + j, k == ahead ? w[j] : j == 0 ? k % 2 : j == 1 ? k + 6 : 5);
                    }
                }
                String which = w[0] + ", " + w[1] + ", " + w[2] + " behind " + ahead;
                c.due(which, x.vows(0, 0, 4), ahead);
                c.due(which + ": so many are there", x.count(1), ahead);
                c.due(which + ": but from the next on", x.vows(0, 3 * ahead + 3, 4), 3 - ahead);
            }
        }
        CastWithVows x = Check.bells(40, 50);
        Check.lay(x, 0, 0, 1, 9, 5, 0, 1, 0);
        c.due("the edges that are so", x.vows(0, 0, 2), 2);
        int[][] want = {{1, 9, 5, 999, 999}, {0, 1, 0, 999, 999}};
        for (int v = 0; v < 2; v++) {
            for (int what = 2; what <= 6; what++) {
                c.due("of(" + v + ", " + what + ")", x.of(v, what), want[v][what - 2]);
            }
        }
    }

    private static void rowFull() {
        c.promise("or VOWS are FULL: those ahead came");
        for (int there = 8; there <= 12; there++) {
            CastWithVows x = Check.bells(40);
            for (int v = 0; v < there; v++) {
                x.vow(0, 1);
            }
            Check.lay(x, 0, 0, 0, 2, 1, 0, 3, 2, 0, 4, 3);
            c.due("three, where " + there + " are there", x.vows(0, 0, 3), Math.min(3, 12 - there));
            c.due("how many", x.count(1), Math.min(12, there + 3));
            c.due("vow 11", x.of(11, 3), there == 12 ? 1 : there < 9 ? BAD : 13 - there);
        }
    }

    private static void rowNarrowed() {
        c.promise("what is put in keeps its lowest bits: so the VOWS come from them");
        CastWithVows x = Check.bells(40, 50);
        Check.lay(x, 0, 0, 257, 512 + 9, -256 + 5, 255, 1, 0);
        c.due("1, 9, 5, then -1, 1, 0", x.vows(0, 0, 2), 1);
        c.due("bell", x.of(0, 2), 1);
        c.due("weight", x.of(0, 3), 9);
        c.due("by", x.of(0, 4), 5);
    }

    // ---- mend, of

    private static void mendOfWhom() {
        c.promise("mend: BAD, no such number");
        CastWithVows x = Check.bells(40, 50);
        x.vow(0, 5);
        x.vow(1, 6);
        x.vow(1, 7);
        int[] many = {2, 2, 3, 3, 3, 3, 3, 1};
        for (int what = 0; what <= 7; what++) {
            for (int number = 0; number < many[what]; number++) {
                int was = x.of(number, what);
                c.due("the same told, " + number + ", " + what, x.mend(number, what, was), was);
            }
            for (int number : new int[] {-1, many[what], 12, Integer.MIN_VALUE, Integer.MAX_VALUE}) {
                c.due("mend " + number + ", " + what, x.mend(number, what, 1), BAD);
                c.due("of " + number + ", " + what, x.of(number, what), BAD);
            }
        }
        for (int what : new int[] {-1, 8, 9, 10, 11, 12, Integer.MIN_VALUE, Integer.MAX_VALUE}) {
            c.due("what " + what, x.mend(0, what, 1), BAD);
        }
        c.due("nothing has changed", x.count(3), 0);
        c.promise("mend: what it was");
        c.due("each its own", x.mend(1, 0, 0), 50);
        c.due("each its own", x.mend(2, 3, 1), 7);
        c.due("the others stay", x.of(0, 0), 40);
        c.due("the others stay", x.of(1, 3), 6);
    }

    private static void ofWhom() {
        c.promise("of: BAD");
        CastWithVows x = Check.bells(40, 50);
        x.vow(0, 5);
        for (int what : new int[] {-1, 8, 9, 12, 13, Integer.MIN_VALUE, Integer.MAX_VALUE}) {
            c.due("what " + what, x.of(0, what), BAD);
        }
        for (int number : new int[] {-1, 1, 2, Integer.MIN_VALUE, Integer.MAX_VALUE}) {
            c.due("kept, of vow " + number, x.of(number, 10), BAD);
            c.due("TODAY, number " + number, x.of(number, 11), BAD);
            c.due("faithless, number " + number, x.of(number, 7), BAD);
        }
        c.due("a bell that is no vow", x.of(1, 2), BAD);
        c.due("its tone", x.of(1, 0), 50);
    }

    // ---- the object as a whole

    private static void calls512() {
        c.promise("An object is used for at most 512 calls");
        CastWithVows x = new CastWithVows();
        int calls = 0;
        for (; calls < 6; calls++) {
            c.due("bell", x.bell(calls), calls);
        }
        for (int v = 0; v < 12; v++, calls++) {
            c.due("vow", x.vow(v / 2, 9), v);
        }
        for (int i = 1; calls < 508; calls++, i++) {
            c.due("mend " + i, x.mend(0, 5, i % 2), i == 1 ? 999 : (i + 1) % 2);
        }
        c.due("the 509th", x.count(3), 40);
        c.due("the 510th", x.pitch(0, 0, 0), -9);
        c.due("the 511th", x.undo(), 39);
        c.due("the 512th", x.pitch(0, 0, 0), 0);
    }

    private static void ownMemory() {
        c.promise("All memory is the class's own: two objects know nothing of each other");
        CastWithVows x = Check.bells(40, 50);
        CastWithVows y = new CastWithVows();
        c.due("a vow in no bell", y.vow(0, 1), BAD);
        c.due("bell", y.bell(60), 0);
        c.due("vow", y.vow(0, 9), 0);
        c.due("vow", x.vow(1, 2), 0);
        x.breaks(0);
        x.feed('7');
        y.feed('8');
        y.pass(3);
        c.due("law", x.law(), 1);
        c.due("its own", x.puts(0, 0), 7);
        c.due("none", y.puts(0, 0), 0);
        c.due("law", y.law(), 1);
        c.due("its own", y.puts(0, 0), 8);
        c.due("its own", x.puts(0, 0), 7);
        c.due("TODAY", x.of(0, 11), 0);
        c.due("TODAY", y.of(0, 11), 3);
        c.due("broken", x.led(0), 1);
        c.due("broken", y.led(0), 0);
        x.mend(0, 0, 1);
        c.due("no change", y.undo(), CastWithVows.STATE);
        x.image();
        c.due("no image", y.back(), CastWithVows.STATE);
        x.row(0, 0, 3);
        c.due("nothing", y.put(0, 0, 1), -11);
        x.body(0);
        x.act(0, 0, 0);
        c.due("no body", y.act(0, 0, 5), 0);
        c.due("its trace stays", x.trace(0), 1);
        c.due("no trace", y.trace(0), BAD);
    }
}
