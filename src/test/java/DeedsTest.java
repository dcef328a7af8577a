/** Promises 26 to 34: vows broken and kept in deed, days, rings, what is led, an image, undoing. */
public final class DeedsTest {
    private static final Check c = new Check();

    public static void main(String[] args) {
        breaksAndKeeps();
        passes();
        rings();
        led();
        images();
        undone();
        fortyAtMost();
        theOldestGo();
        c.end();
    }

    private static CastWithVows town() {
        CastWithVows x = new CastWithVows();
        x.bell(40);
        x.bell(50);
        x.vow(0, 3);
        x.vow(1, 4);
        return x;
    }

    private static void breaksAndKeeps() {
        c.promise("promises 26, 27");
        CastWithVows x = town();
        c.due("breaks(-1)", x.breaks(-1), CastWithVows.BAD);
        c.due("breaks(2)", x.breaks(2), CastWithVows.BAD);
        c.due("keeps(-1)", x.keeps(-1), CastWithVows.BAD);
        c.due("keeps(2)", x.keeps(2), CastWithVows.BAD);
        c.due("it was kept", x.keeps(0), 0);
        x.pass(3);
        c.due("broken", x.breaks(0), 1);
        c.due("it was broken", x.breaks(0), 0);
        c.due("from today on", x.of(0, 5), 3);
        c.due("broken today", x.keeps(0), CastWithVows.STATE);
        c.due("and again is not told", x.of(0, 6), 999);
        x.pass(1);
        c.due("it was broken", x.breaks(0), 0);
        c.due("that changes nothing", x.of(0, 5), 3);
        c.due("kept again", x.keeps(0), 1);
        c.due("from today on", x.of(0, 6), 4);
        c.due("broken stays", x.of(0, 5), 3);
        c.due("it was kept", x.keeps(0), 0);
        c.due("broken anew", x.breaks(0), 1);
        c.due("today", x.of(0, 5), 4);
        c.due("again is 999", x.of(0, 6), 999);
        x.mend(1, 5, 100);
        x.mend(1, 6, 200);
        c.due("to be broken later, broken now", x.breaks(1), 1);
        c.due("today", x.of(1, 5), 4);
        c.due("and for good", x.of(1, 6), 999);
        c.due("broken", x.led(0), 3);
        c.due("kept again", x.led(1), 1);
        c.due("deeds are no changes", x.count(3), 2);
    }

    private static void passes() {
        c.promise("promise 28");
        CastWithVows x = new CastWithVows();
        c.due("pass(0)", x.pass(0), CastWithVows.BAD);
        c.due("pass(100)", x.pass(100), CastWithVows.BAD);
        c.due("pass(-1)", x.pass(-1), CastWithVows.BAD);
        for (int i = 1; i <= 10; i++) {
            c.due("pass(99)", x.pass(99), 99 * i);
        }
        c.due("more than 998", x.pass(9), CastWithVows.STATE);
        c.due("BAD ahead of STATE", x.pass(100), CastWithVows.BAD);
        c.due("today", x.led(4), 990);
        c.due("to 998", x.pass(8), 998);
        c.due("no more", x.pass(1), CastWithVows.STATE);
    }

    private static void rings() {
        c.promise("promise 29");
        CastWithVows x = town();
        c.due("pitch", x.ring(0, 0), 40);
        x.breaks(0);
        c.due("off", x.ring(0, 23), 37);
        c.due("the other", x.ring(1, 23), 50);
        c.due("rung", x.led(2), 3);
        c.due("rung that were off", x.led(3), 1);
        x.pass(5);
        Check.feed(x, "d+h");
        c.due("today at that hour", x.ring(0, 2), 47);
        c.due("bell 2", x.ring(2, 0), CastWithVows.VOID);
        c.due("bell -1", x.ring(-1, 0), CastWithVows.VOID);
        c.due("hour 24", x.ring(0, 24), CastWithVows.VOID);
        c.due("hour -1", x.ring(0, -1), CastWithVows.VOID);
        c.due("those are not led", x.led(2), 4);
        c.due("off", x.led(3), 2);
    }

    private static void led() {
        c.promise("promise 30");
        CastWithVows x = town();
        for (int what = 0; what <= 4; what++) {
            c.due("led(" + what + ")", x.led(what), 0);
        }
        c.due("led(5)", x.led(5), CastWithVows.BAD);
        c.due("led(-1)", x.led(-1), CastWithVows.BAD);
        x.breaks(0);
        x.breaks(1);
        x.pass(2);
        x.keeps(0);
        x.ring(0, 0);
        x.ring(1, 0);
        x.ring(1, 0);
        int[] want = {2, 1, 3, 2, 2};
        for (int what = 0; what <= 4; what++) {
            c.due("led(" + what + ")", x.led(what), want[what]);
        }
        x.mend(0, 5, 0);
        x.pitch(0, 0, 0);
        c.due("mending is not led", x.led(0), 2);
        c.due("nor is what is asked", x.led(2), 3);
    }

    private static void images() {
        c.promise("promises 31, 32");
        CastWithVows x = town();
        c.due("none", x.back(), CastWithVows.STATE);
        x.pass(4);
        x.breaks(0);
        x.pass(2);
        x.keeps(0);
        x.ring(1, 0);
        c.due("image", x.image(), 6);
        x.vow(1, 7);
        x.pass(10);
        x.breaks(0);
        x.breaks(1);
        x.breaks(2);
        x.ring(1, 0);
        x.mend(0, 3, 9);
        x.mend(1, 6, 500);
        c.due("back", x.back(), 6);
        c.due("today", x.of(0, 11), 6);
        c.due("broken", x.of(0, 5), 4);
        c.due("again", x.of(0, 6), 6);
        c.due("broken", x.of(1, 5), 999);
        c.due("again", x.of(1, 6), 999);
        c.due("a vow that came since stays", x.of(2, 5), 16);
        c.due("a weight is not in the image", x.of(0, 3), 9);
        int[] want = {1, 1, 1, 0, 6};
        for (int what = 0; what <= 4; what++) {
            c.due("led(" + what + ")", x.led(what), want[what]);
        }
        c.due("changes stay", x.count(3), 2);
        x.pass(1);
        c.due("back once more", x.back(), 6);
        x.pass(3);
        c.due("a later image", x.image(), 9);
        x.pass(3);
        c.due("is the one", x.back(), 9);
        c.due("undo behind it", x.undo(), 1);
        c.due("tells what it was then", x.of(1, 6), 999);
    }

    private static void undone() {
        c.promise("promises 33, 34");
        CastWithVows x = town();
        c.due("none", x.undo(), CastWithVows.STATE);
        c.due("none", x.redo(), CastWithVows.STATE);
        x.mend(0, 0, 41);
        x.mend(0, 0, 42);
        x.mend(0, 0, 42);
        x.mend(0, 7, 3);
        c.due("telling the same is none", x.count(3), 3);
        c.due("undo", x.undo(), 2);
        c.due("faithless", x.of(0, 7), 1);
        c.due("undo", x.undo(), 1);
        c.due("tone", x.of(0, 0), 41);
        c.due("redo", x.redo(), 1);
        c.due("tone", x.of(0, 0), 42);
        x.mend(0, 0, 42);
        x.mend(0, 0, 100);
        x.breaks(0);
        x.bell(1);
        c.due("none of those stands behind", x.redo(), 0);
        c.due("faithless", x.of(0, 7), 3);
        c.due("no more", x.redo(), CastWithVows.STATE);
        x.undo();
        x.mend(1, 2, 0);
        c.due("another came behind", x.redo(), CastWithVows.STATE);
        c.due("undo", x.undo(), 2);
        c.due("bell of the vow", x.of(1, 2), 1);
        c.due("undo", x.undo(), 1);
        c.due("undo", x.undo(), 0);
        c.due("tone at first", x.of(0, 0), 40);
        c.due("none", x.undo(), CastWithVows.STATE);
        c.due("redo", x.redo(), 2);
        x.mend(0, 5, 9);
        x.pass(1);
        x.mend(0, 5, 20);
        x.breaks(0);
        x.undo();
        c.due("what it was ahead of the change", x.of(0, 5), 9);
        x.redo();
        c.due("what the change made it", x.of(0, 5), 20);
    }

    private static void fortyAtMost() {
        c.promise("promises 33, 34");
        CastWithVows x = town();
        for (int i = 1; i <= 45; i++) {
            x.mend(0, 0, 40 + i);
            c.due("kept", x.count(3), Math.min(i, 40));
        }
        for (int i = 39; i >= 0; i--) {
            c.due("undo", x.undo(), i);
            c.due("tone", x.of(0, 0), 45 + i);
        }
        c.due("none", x.undo(), CastWithVows.STATE);
        for (int i = 39; i >= 0; i--) {
            c.due("redo", x.redo(), i);
        }
        c.due("none", x.redo(), CastWithVows.STATE);
        c.due("tone", x.of(0, 0), 85);
        x.mend(0, 0, 0);
        c.due("still forty", x.count(3), 40);
        c.due("undo", x.undo(), 39);
        c.due("tone", x.of(0, 0), 85);
    }

    /** Tone and tune of a bell, then BROKEN and AGAIN of a vow, by turns for 0 and 1. */
    private static int whatOf(int i) {
        return i % 4 < 2 ? i % 4 : i % 4 + 3;
    }

    /** Changes of unlike numbers, so that each must move up whole when the oldest goes. */
    private static void theOldestGo() {
        c.promise("promises 33, 34");
        CastWithVows x = town();
        for (int i = 0; i < 42; i++) {
            x.mend(i / 4 % 2, whatOf(i), i % 24 + 1);
        }
        c.due("kept", x.count(3), 40);
        for (int i = 0; i < 40; i++) {
            x.undo();
        }
        int[] then = {1, 2, 999, 999, 50, 12, 999, 999};
        for (int k = 0; k < 8; k++) {
            c.due("all but the first two are undone", x.of(k / 4, whatOf(k)), then[k]);
        }
        for (int i = 0; i < 40; i++) {
            x.redo();
        }
        int[] now = {17, 18, 11, 12, 13, 14, 15, 16};
        for (int k = 0; k < 8; k++) {
            c.due("all are done again", x.of(k / 4, whatOf(k)), now[k]);
        }
    }
}
