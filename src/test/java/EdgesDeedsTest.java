/** The edges of deeds, images and changes, sentence by sentence: Terms 4, promises 26 to 34. */
public final class EdgesDeedsTest {
    private static final int BAD = CastWithVows.BAD, STATE = CastWithVows.STATE, VOID = CastWithVows.VOID;
    private static final Check c = new Check();

    public static void main(String[] args) {
        breaks();
        keeps();
        brokenToday();
        passes();
        rings();
        led();
        imageNone();
        imageOfAll();
        imageLater();
        imageWhatNot();
        undoNone();
        undoLatestFirst();
        redoUntilAnother();
        whatIsNoChange();
        fortyAtMost();
        c.end();
    }

    private static CastWithVows town() {
        CastWithVows x = Check.bells(40, 50);
        x.vow(0, 3);
        x.vow(1, 4);
        return x;
    }

    private static void state(CastWithVows x, int vow, int broken, int again) {
        c.due("BROKEN of " + vow, x.of(vow, 5), broken);
        c.due("AGAIN of " + vow, x.of(vow, 6), again);
    }

    // ---- break, keep

    private static void breaks() {
        c.promise("BREAK a VOW (BROKEN is TODAY, AGAIN 999): 1; 0: it was broken");
        CastWithVows x = town();
        c.due("on day 0", x.breaks(0), 1);
        state(x, 0, 0, 999);
        c.due("it was broken", x.breaks(0), 0);
        x.pass(5);
        c.due("it was broken", x.breaks(0), 0);
        state(x, 0, 0, 999);
        x.mend(1, 5, 5);
        c.due("broken from TODAY on, by mend", x.breaks(1), 0);
        x.mend(1, 5, 6);
        c.due("to be broken tomorrow", x.breaks(1), 1);
        state(x, 1, 5, 999);
        x.mend(1, 5, 2);
        x.mend(1, 6, 5);
        c.due("kept again from TODAY on", x.breaks(1), 1);
        state(x, 1, 5, 999);
        x.mend(1, 5, 2);
        x.mend(1, 6, 6);
        c.due("kept again from tomorrow on: broken", x.breaks(1), 0);
        state(x, 1, 2, 6);
        x.mend(1, 6, 2);
        c.due("AGAIN is not behind BROKEN: broken", x.breaks(1), 0);
        state(x, 1, 2, 2);
        c.due("led: three were broken in deed", x.led(0), 3);
        for (int i = 0; i < 10; i++) {
            x.pass(99);
        }
        x.pass(3);
        x.mend(0, 5, 999);
        c.due("on day 998", x.breaks(0), 1);
        state(x, 0, 998, 999);
        c.promise("breaks: BAD");
        for (int vow : new int[] {-1, 2, 12, Integer.MIN_VALUE, Integer.MAX_VALUE}) {
            c.due("vow " + vow, x.breaks(vow), BAD);
        }
        c.due("no vows", new CastWithVows().breaks(0), BAD);
        c.due("led", x.led(0), 4);
    }

    private static void keeps() {
        c.promise("KEEP it again (AGAIN is TODAY): 1; 0: it was KEPT");
        CastWithVows x = town();
        c.due("never broken", x.keeps(0), 0);
        state(x, 0, 999, 999);
        x.breaks(0);
        x.pass(1);
        c.due("the day behind", x.keeps(0), 1);
        state(x, 0, 0, 1);
        c.due("it was KEPT", x.keeps(0), 0);
        x.pass(9);
        c.due("it was KEPT", x.keeps(0), 0);
        state(x, 0, 0, 1);
        x.mend(1, 5, 11);
        c.due("to be broken tomorrow", x.keeps(1), 0);
        x.mend(1, 5, 9);
        x.mend(1, 6, 11);
        c.due("to be kept tomorrow, kept TODAY", x.keeps(1), 1);
        state(x, 1, 9, 10);
        x.mend(1, 6, 9);
        c.due("AGAIN was not behind BROKEN", x.keeps(1), 1);
        state(x, 1, 9, 10);
        x.mend(1, 6, 0);
        c.due("AGAIN was ahead of BROKEN", x.keeps(1), 1);
        state(x, 1, 9, 10);
        c.due("kept again", x.led(1), 4);
        c.promise("keeps: BAD");
        for (int vow : new int[] {-1, 2, 12, Integer.MIN_VALUE, Integer.MAX_VALUE}) {
            c.due("vow " + vow, x.keeps(vow), BAD);
        }
        c.due("no vows", new CastWithVows().keeps(0), BAD);
        c.due("kept again", x.led(1), 4);
    }

    private static void brokenToday() {
        c.promise("keeps: STATE: it was broken TODAY");
        CastWithVows x = town();
        x.breaks(0);
        c.due("day 0", x.keeps(0), STATE);
        state(x, 0, 0, 999);
        x.pass(7);
        x.mend(1, 5, 7);
        c.due("by mend", x.keeps(1), STATE);
        x.mend(1, 6, 7);
        c.due("with AGAIN TODAY", x.keeps(1), STATE);
        state(x, 1, 7, 7);
        x.mend(1, 6, 0);
        c.due("with AGAIN ahead", x.keeps(1), STATE);
        state(x, 1, 7, 0);
        x.mend(1, 5, 6);
        c.due("broken yesterday", x.keeps(1), 1);
        c.due("broken a week ahead", x.keeps(0), 1);
        c.due("kept again", x.led(1), 2);
        c.due("broken anew TODAY, when it was kept again TODAY", x.breaks(0), 1);
        c.due("is broken TODAY", x.keeps(0), STATE);
        state(x, 0, 7, 999);
        c.due("kept again", x.led(1), 2);
    }

    // ---- days, rings, what is led

    private static void passes() {
        c.promise("n days (1 .. 99) pass: TODAY. BAD; STATE: it would be more than 998");
        CastWithVows x = new CastWithVows();
        for (int n : new int[] {0, -1, 100, 101, Integer.MIN_VALUE, Integer.MAX_VALUE}) {
            c.due("pass(" + n + ")", x.pass(n), BAD);
        }
        c.due("TODAY", x.of(0, 11), 0);
        c.due("1", x.pass(1), 1);
        c.due("99", x.pass(99), 100);
        for (int i = 2; i <= 9; i++) {
            c.due("99", x.pass(99), 99 * i + 1);
        }
        c.due("892 and 99", x.pass(99), 991);
        c.due("999", x.pass(8), STATE);
        c.due("1090", x.pass(99), STATE);
        c.due("BAD ahead of STATE", x.pass(100), BAD);
        c.due("TODAY", x.of(0, 11), 991);
        c.due("998", x.pass(7), 998);
        c.due("999", x.pass(1), STATE);
        c.due("BAD ahead of STATE", x.pass(0), BAD);
        c.due("TODAY", x.led(4), 998);
        CastWithVows y = new CastWithVows();
        for (int i = 1; i <= 10; i++) {
            y.pass(99);
        }
        c.due("990 and 9", y.pass(9), STATE);
        c.due("990 and 8", y.pass(8), 998);
    }

    private static void rings() {
        c.promise("RING a BELL at an hour: PITCH TODAY. VOID: BAD");
        CastWithVows x = town();
        x.mend(0, 5, 3);
        x.mend(0, 6, 4);
        int[] want = {40, 40, 40, 37, 40};
        for (int day = 0; day <= 4; day++) {
            c.due("on day " + day, x.ring(0, 23), want[day]);
            c.due("rung", x.led(2), 2 * day + 1);
            c.due("rung that were OFF", x.led(3), day < 3 ? 0 : 1);
            c.due("the other", x.ring(1, 0), 50);
            x.pass(1);
        }
        for (int bell : new int[] {-1, 2, 6, Integer.MIN_VALUE, Integer.MAX_VALUE}) {
            c.due("bell " + bell, x.ring(bell, 0), VOID);
        }
        for (int hour : new int[] {-1, 24, 100, Integer.MIN_VALUE, Integer.MAX_VALUE}) {
            c.due("hour " + hour, x.ring(0, hour), VOID);
        }
        c.due("no bells", new CastWithVows().ring(0, 0), VOID);
        c.due("rung", x.led(2), 10);
        c.due("rung that were OFF", x.led(3), 1);
        Check.feed(x, "h-12");
        c.due("hour 0", x.ring(0, 0), 31);
        c.due("hour 12", x.ring(0, 12), 40);
        c.due("hour 23", x.ring(0, 23), 49);
        c.due("rung", x.led(2), 13);
        c.due("rung that were OFF", x.led(3), 3);
    }

    private static void led() {
        c.promise("LED: broken (what 0), kept again (1), rung (2), OFF (3), TODAY (4). BAD");
        CastWithVows x = town();
        for (int what : new int[] {-1, 5, 6, Integer.MIN_VALUE, Integer.MAX_VALUE}) {
            c.due("what " + what, x.led(what), BAD);
        }
        for (int i = 0; i < 40; i++) {
            x.breaks(0);
            x.ring(0, 0);
            x.pass(1);
            x.keeps(0);
            x.ring(0, 0);
            x.ring(1, 0);
        }
        int[] want = {40, 40, 120, 40, 40};
        for (int what = 0; what <= 4; what++) {
            c.due("what " + what, x.led(what), want[what]);
        }
        c.due("what is asked of a bell does not ring it", x.pitch(0, 0, 0), 40);
        x.mend(0, 5, 0);
        x.mend(0, 6, 999);
        c.due("nor does mending break", x.led(0), 40);
        c.due("rung", x.led(2), 120);
    }

    // ---- an image

    private static void imageNone() {
        c.promise("It is laid back: TODAY. STATE: there is none");
        CastWithVows x = town();
        c.due("none", x.back(), STATE);
        x.pass(3);
        c.due("none", x.back(), STATE);
        c.due("TODAY", x.of(0, 11), 3);
        c.due("AN IMAGE", x.image(), 3);
        c.due("it is laid back", x.back(), 3);
        CastWithVows empty = new CastWithVows();
        c.due("of nothing", empty.image(), 0);
        empty.bell(40);
        empty.vow(0, 3);
        empty.pass(9);
        empty.breaks(0);
        c.due("back", empty.back(), 0);
        c.due("a vow that came since stays broken", empty.of(0, 5), 9);
        c.due("though it is KEPT TODAY", empty.of(0, 10), 1);
        c.due("broken in deed", empty.led(0), 0);
        c.due("the bell stays", empty.count(0), 1);
    }

    private static void imageOfAll() {
        c.promise("AN IMAGE keeps TODAY, BROKEN and AGAIN of all, what LED tells");
        CastWithVows x = Check.bells(40);
        for (int v = 0; v < 12; v++) {
            x.vow(0, 1);
            x.mend(v, 5, 10 + v);
            x.mend(v, 6, 30 + v);
        }
        x.pass(42);
        x.breaks(11);
        x.pass(1);
        x.keeps(11);
        x.ring(0, 0);
        x.breaks(0);
        x.ring(0, 0);
        c.due("AN IMAGE", x.image(), 43);
        for (int v = 0; v < 12; v++) {
            x.breaks(v);
        }
        x.pass(99);
        for (int v = 0; v < 12; v++) {
            x.keeps(v);
            x.ring(0, v);
        }
        c.due("back", x.back(), 43);
        state(x, 0, 43, 999);
        for (int v = 1; v < 11; v++) {
            state(x, v, 10 + v, 30 + v);
        }
        state(x, 11, 42, 43);
        int[] want = {2, 1, 2, 1, 43};
        for (int what = 0; what <= 4; what++) {
            c.due("led(" + what + ")", x.led(what), want[what]);
        }
        c.due("TODAY", x.of(0, 11), 43);
        c.due("days may pass from there", x.pass(99), 142);
    }

    private static void imageLater() {
        c.promise("the later image takes the place of the one ahead; it may be laid back more than once");
        CastWithVows x = town();
        x.image();
        x.pass(5);
        x.breaks(0);
        c.due("the later", x.image(), 5);
        x.pass(5);
        x.keeps(0);
        c.due("back", x.back(), 5);
        state(x, 0, 5, 999);
        x.pass(7);
        x.keeps(0);
        c.due("back again", x.back(), 5);
        state(x, 0, 5, 999);
        for (int i = 0; i < 10; i++) {
            x.pass(99);
        }
        c.due("TODAY", x.pass(3), 998);
        c.due("an image of the last day", x.image(), 998);
        c.due("no day more", x.pass(1), STATE);
        c.due("back to it", x.back(), 998);
    }

    private static void imageWhatNot() {
        c.promise("AN IMAGE keeps no more: (VOWS that came since stay as they are)");
        CastWithVows x = town();
        x.image();
        x.mend(0, 0, 99);
        x.mend(0, 1, 3);
        x.mend(0, 2, 1);
        x.mend(0, 3, 9);
        x.mend(0, 4, 5);
        x.mend(0, 7, 8);
        x.bell(70);
        x.vow(2, 2);
        x.vow(2, 3);
        x.pass(3);
        x.breaks(2);
        x.mend(3, 5, 1);
        x.mend(3, 6, 2);
        Check.feed(x, "7");
        x.feed('w');
        x.body(0);
        Check.lay(x, 0, 2, 6);
        c.due("back", x.back(), 0);
        int[] want = {99, 3, 1, 9, 5, 999, 999, 8};
        for (int what = 0; what <= 7; what++) {
            c.due("of(0, " + what + ")", x.of(0, what), want[what]);
        }
        state(x, 2, 3, 999);
        state(x, 3, 1, 2);
        int[] counts = {3, 4, 1, 8, 1};
        for (int what = 0; what <= 4; what++) {
            c.due("count(" + what + ")", x.count(what), counts[what]);
        }
        c.due("the law stays", x.puts(0, 0), 7);
        c.due("the row stays", x.element(0, 0), 6);
        c.due("the changes stay", x.undo(), 7);
        c.due("and are undone", x.of(3, 6), 999);
    }

    // ---- changes

    private static void undoNone() {
        c.promise("UNDONE: how many may still be. STATE: none");
        CastWithVows x = town();
        c.due("undo", x.undo(), STATE);
        c.due("redo", x.redo(), STATE);
        x.mend(0, 0, 1);
        c.due("none to be done again", x.redo(), STATE);
        c.due("undo", x.undo(), 0);
        c.due("undo", x.undo(), STATE);
        c.due("tone", x.of(0, 0), 40);
        c.due("redo", x.redo(), 0);
        c.due("redo", x.redo(), STATE);
        c.due("tone", x.of(0, 0), 1);
        c.due("count", x.count(3), 1);
    }

    private static void undoLatestFirst() {
        c.promise("CHANGES (all numbers of mend()) can be UNDONE, the latest first, and DONE AGAIN");
        CastWithVows x = town();
        int[] first = {40, 12, 0, 3, 0, 999, 999, 1};
        int[] then = {0, 24, 1, 9, 5, 0, 998, 12};
        for (int what = 0; what <= 7; what++) {
            x.mend(0, what, then[what]);
            c.due("so many may be UNDONE", x.count(3), what + 1);
        }
        for (int round = 0; round < 2; round++) {
            for (int what = 7; what >= 0; what--) {
                c.due("undo", x.undo(), what);
                for (int k = 0; k <= 7; k++) {
                    c.due("number " + k, x.of(0, k), k < what ? then[k] : first[k]);
                }
                c.due("count", x.count(3), what);
            }
            for (int what = 0; what <= 7; what++) {
                c.due("redo", x.redo(), 7 - what);
                c.due("number " + what, x.of(0, what), then[what]);
                c.due("count", x.count(3), what + 1);
            }
        }
        c.promise("each number of each BELL and VOW is its own");
        CastWithVows y = town();
        y.mend(1, 0, 7);
        y.mend(0, 0, 8);
        y.mend(1, 5, 9);
        y.mend(0, 5, 10);
        y.undo();
        c.due("vow 0", y.of(0, 5), 999);
        c.due("vow 1", y.of(1, 5), 9);
        y.undo();
        y.undo();
        c.due("bell 0", y.of(0, 0), 40);
        c.due("bell 1", y.of(1, 0), 7);
        c.due("vow 1", y.of(1, 5), 999);
    }

    private static void redoUntilAnother() {
        c.promise("DONE AGAIN (as long as no other came behind)");
        CastWithVows x = town();
        x.mend(0, 0, 1);
        x.mend(0, 0, 2);
        x.mend(0, 0, 3);
        x.undo();
        x.undo();
        c.due("one of two", x.redo(), 1);
        x.mend(1, 0, 9);
        c.due("another came", x.redo(), STATE);
        c.due("tone of 0", x.of(0, 0), 2);
        c.due("three: 1, 2 and the other", x.count(3), 3);
        c.due("undo", x.undo(), 2);
        c.due("tone of 1", x.of(1, 0), 50);
        c.due("undo", x.undo(), 1);
        c.due("tone of 0", x.of(0, 0), 1);
        c.due("redo", x.redo(), 1);
        c.due("redo", x.redo(), 0);
        c.due("the other, not the third", x.of(1, 0), 9);
        c.due("tone of 0", x.of(0, 0), 2);
        c.promise("another, when all are UNDONE");
        while (x.count(3) > 0) {
            x.undo();
        }
        x.mend(0, 0, 77);
        c.due("none", x.redo(), STATE);
        c.due("one", x.count(3), 1);
        c.due("undo", x.undo(), 0);
        c.due("tone", x.of(0, 0), 40);
    }

    private static void whatIsNoChange() {
        c.promise("telling the same number is none; deeds are none; what is refused is none");
        CastWithVows x = town();
        x.mend(0, 0, 1);
        x.mend(0, 3, 4);
        x.undo();
        c.due("the same", x.mend(0, 0, 1), 1);
        c.due("the same", x.mend(0, 3, 3), 3);
        c.due("the same", x.mend(0, 7, 1), 1);
        c.due("refused", x.mend(0, 0, 100), BAD);
        c.due("refused", x.mend(2, 0, 1), BAD);
        x.breaks(0);
        x.pass(1);
        x.keeps(0);
        x.ring(0, 0);
        x.image();
        x.back();
        x.bell(9);
        x.vow(2, 1);
        Check.feed(x, "w");
        x.body(0);
        x.row(0, 0, 9);
        c.due("one", x.count(3), 1);
        c.due("DONE AGAIN still", x.redo(), 0);
        c.due("weight", x.of(0, 3), 4);
        c.due("undo", x.undo(), 1);
        c.due("undo", x.undo(), 0);
        c.due("tone", x.of(0, 0), 40);
        c.due("a deed stays", x.of(0, 5), 0);
        c.due("a deed stays", x.of(0, 6), 1);
    }

    private static void fortyAtMost() {
        c.promise("40 at most are kept");
        for (int n = 38; n <= 44; n++) {
            CastWithVows x = Check.bells(0, 0);
            for (int i = 1; i <= n; i++) {
                x.mend(i % 2, 0, i);
                c.due("kept", x.count(3), Math.min(i, 40));
            }
            int kept = Math.min(n, 40);
            for (int i = kept - 1; i >= 0; i--) {
                c.due("undo", x.undo(), i);
            }
            c.due("no more", x.undo(), STATE);
            int oldest = n - kept;
            c.due("bell 0", x.of(0, 0), oldest % 2 == 0 ? oldest : oldest - 1);
            c.due("bell 1", x.of(1, 0), oldest == 0 ? 0 : oldest % 2 == 1 ? oldest : oldest - 1);
            for (int i = kept - 1; i >= 0; i--) {
                c.due("redo", x.redo(), i);
            }
            c.due("no more", x.redo(), STATE);
            c.due("bell 0", x.of(0, 0), n % 2 == 0 ? n : n - 1);
            c.due("bell 1", x.of(1, 0), n % 2 == 1 ? n : n - 1);
        }
        c.promise("40 at most are kept: the oldest goes, those UNDONE are no more when another comes");
        CastWithVows x = Check.bells(0);
        for (int i = 1; i <= 40; i++) {
            x.mend(0, 0, i);
        }
        x.undo();
        c.due("39", x.count(3), 39);
        x.mend(0, 0, 90);
        c.due("40", x.count(3), 40);
        c.due("none", x.redo(), STATE);
        x.mend(0, 0, 91);
        c.due("40", x.count(3), 40);
        for (int i = 0; i < 40; i++) {
            x.undo();
        }
        c.due("the first went", x.of(0, 0), 1);
    }
}
