/** Promises 10 to 17: pitch, town, beats, chimes, days, faults, whom to win back, silent vows. */
public final class SoundsTest {
    private static final Check c = new Check();
    private static final int[] NO_DAYS = {-1, 24, 99, 124, 99824, 99900, Integer.MAX_VALUE, Integer.MIN_VALUE};

    public static void main(String[] args) {
        pitches();
        town();
        beats();
        chimes();
        days();
        faults();
        wins();
        silent();
        daysAndHours();
        c.end();
    }

    /** Three bells 40, 50, 60; vow 0 (3) and 1 (4) in bell 0, vow 2 (5) in bell 1. */
    private static CastWithVows threeBells() {
        CastWithVows x = new CastWithVows();
        x.bell(40);
        x.bell(50);
        x.bell(60);
        x.vow(0, 3);
        x.vow(0, 4);
        x.vow(1, 5);
        return x;
    }

    private static void pitches() {
        c.promise("promise 10");
        CastWithVows x = threeBells();
        x.mend(0, 5, 2);
        x.mend(1, 5, 3);
        c.due("pitch", x.pitch(0, 100, 0), 40);
        c.due("pitch", x.pitch(0, 200, 0), 37);
        c.due("pitch", x.pitch(0, 300, 0), 33);
        c.due("off", x.pitch(0, 300, 1), -7);
        c.due("without vows", x.pitch(2, 300, 0), 60);
        c.due("not off", x.pitch(2, 300, 1), 0);
        c.due("what 2", x.pitch(0, 0, 2), CastWithVows.VOID);
        c.due("what -1", x.pitch(0, 0, -1), CastWithVows.VOID);
        c.due("bell 3", x.pitch(3, 0, 0), CastWithVows.VOID);
        c.due("bell -1", x.pitch(-1, 0, 0), CastWithVows.VOID);
        for (int dh : NO_DAYS) {
            c.due("dh " + dh, x.pitch(0, dh, 0), CastWithVows.VOID);
        }
        x.mend(0, 0, 99);
        Check.feed(x, "w+h");
        c.due("above", x.pitch(0, 99823, 0), 117);
    }

    private static void town() {
        c.promise("promise 11");
        CastWithVows x = new CastWithVows();
        c.due("no bells off", x.town(0, 0), 0);
        c.due("no first", x.town(0, 1), CastWithVows.NOT);
        c.due("none broken", x.town(0, 2), 0);
        c.due("no vows", x.town(0, 3), CastWithVows.NOT);
        x = threeBells();
        c.due("none puts most: the least", x.town(0, 3), 0);
        x.mend(2, 5, 1);
        c.due("off", x.town(100, 0), 1);
        c.due("first", x.town(100, 1), 1);
        c.due("broken", x.town(100, 2), 1);
        c.due("most", x.town(100, 3), 2);
        x.mend(0, 5, 1);
        c.due("off", x.town(100, 0), 2);
        c.due("first", x.town(100, 1), 0);
        c.due("broken", x.town(100, 2), 2);
        Check.feed(x, "w=3?5;w=4?-5;-5");
        c.due("off by kept ones too, but bell 0 is even", x.town(0, 0), 1);
        c.due("first", x.town(0, 1), 1);
        c.due("none broken", x.town(0, 2), 0);
        c.due("without sign, the least of like ones", x.town(0, 3), 0);
        Check.feed(x, "w=4?-5;w=3?4;5");
        c.due("without sign", x.town(0, 3), 1);
        c.due("what 4", x.town(0, 4), CastWithVows.BAD);
        c.due("what -1", x.town(0, -1), CastWithVows.BAD);
        for (int dh : NO_DAYS) {
            c.due("dh " + dh, x.town(dh, 0), CastWithVows.BAD);
        }
    }

    private static void beats() {
        c.promise("promise 12");
        CastWithVows x = threeBells();
        c.due("10 by 12", x.beats(1, 0), 2);
        c.due("the same turned", x.beats(10, 0), 2);
        c.due("20 by 12", x.beats(2, 0), 4);
        x.mend(0, 1, 7);
        c.due("10 by 7", x.beats(1, 0), 3);
        c.due("the tune of the lesser", x.beats(10, 0), 3);
        c.due("not of the other", x.beats(12, 0), 2);
        x.mend(0, 1, 24);
        c.due("10 by 24", x.beats(1, 0), 10);
        x.mend(0, 1, 20);
        c.due("half a tune", x.beats(1, 0), 10);
        c.due("a whole tune", x.beats(2, 0), 0);
        x.mend(0, 1, 1);
        c.due("tune 1", x.beats(1, 0), 0);
        x.mend(2, 5, 3);
        x.mend(1, 1, 24);
        c.due("broken", x.beats(12, 300), 9);
        c.due("like ones", x.beats(11, 0), CastWithVows.BAD);
        c.due("no such", x.beats(3, 0), CastWithVows.BAD);
        c.due("no such", x.beats(30, 0), CastWithVows.BAD);
        c.due("no such", x.beats(-1, 0), CastWithVows.BAD);
        c.due("no such", x.beats(-10, 0), CastWithVows.BAD);
        c.due("no such", x.beats(101, 0), CastWithVows.BAD);
        for (int dh : NO_DAYS) {
            c.due("dh " + dh, x.beats(1, dh), CastWithVows.BAD);
        }
    }

    private static void chimes() {
        c.promise("promise 13");
        CastWithVows x = new CastWithVows();
        c.due("no bell", x.chime(0, 0, 0), 0);
        c.due("fewer than two", x.chime(0, 0, 1), CastWithVows.NOT);
        c.due("bit 0", x.chime(1, 0, 0), CastWithVows.BAD);
        int[] tones = {10, 22, 13, 34, 19, 25};
        for (int tone : tones) {
            x.bell(tone);
        }
        c.due("all pairs", x.chime(63, 0, 0), 4);
        c.due("the first of those with most", x.chime(63, 0, 1), 24);
        c.due("three alike", x.chime(11, 0, 0), 3);
        c.due("most is none", x.chime(11, 0, 1), 1);
        c.due("a pair of the set", x.chime(48, 0, 1), 45);
        c.due("one bell", x.chime(32, 0, 1), CastWithVows.NOT);
        c.due("one bell", x.chime(32, 0, 0), 0);
        c.due("bit 6", x.chime(64, 0, 0), CastWithVows.BAD);
        c.due("set -1", x.chime(-1, 0, 0), CastWithVows.BAD);
        c.due("what 2", x.chime(1, 0, 2), CastWithVows.BAD);
        c.due("what -1", x.chime(1, 0, -1), CastWithVows.BAD);
        for (int dh : NO_DAYS) {
            c.due("dh " + dh, x.chime(1, dh, 0), CastWithVows.BAD);
        }
        x.vow(1, 2);
        x.breaks(0);
        c.due("broken", x.chime(11, 0, 0), 1);
        c.due("broken", x.chime(11, 0, 1), 1);
    }

    private static void days() {
        c.promise("promise 14");
        CastWithVows x = threeBells();
        x.mend(0, 5, 3);
        x.mend(0, 6, 6);
        c.due("the first", x.days(0, 300, 0), 6);
        c.due("at once", x.days(0, 200, 0), 2);
        c.due("how many", x.days(0, 0, 999), 3);
        c.due("how many of 4", x.days(0, 0, 4), 1);
        c.due("how many of 1", x.days(0, 500, 1), 1);
        c.due("how many of 1", x.days(0, 600, 1), 0);
        x.mend(2, 5, 990);
        c.due("no day to 998", x.days(1, 99000, 0), CastWithVows.NOT);
        c.due("to 998 at most", x.days(1, 99500, 999), 4);
        x.mend(2, 6, 998);
        c.due("998 is the first", x.days(1, 99000, 0), 998);
        Check.feed(x, "h");
        c.due("the hour counts", x.days(0, 1, 0), CastWithVows.NOT);
        c.due("another hour", x.days(0, 0, 0), 0);
        c.due("n -1", x.days(0, 0, -1), CastWithVows.BAD);
        c.due("n 1000", x.days(0, 0, 1000), CastWithVows.BAD);
        c.due("bell 3", x.days(3, 0, 0), CastWithVows.BAD);
        c.due("bell -1", x.days(-1, 0, 0), CastWithVows.BAD);
        for (int dh : NO_DAYS) {
            c.due("dh " + dh, x.days(0, dh, 0), CastWithVows.BAD);
        }
    }

    private static void faults() {
        c.promise("promise 15");
        CastWithVows x = threeBells();
        c.due("nobody: the least", x.fault(-1, 0), 0);
        x.mend(1, 4, 5);
        x.mend(2, 4, 5);
        Check.feed(x, "w=3?3;w=4?-4;5");
        c.due("one", x.fault(0, 0), 3);
        c.due("bell by bell, without signs", x.fault(5, 0), 9);
        c.due("another", x.fault(3, 0), 0);
        c.due("who", x.fault(-1, 0), 5);
        x.mend(2, 2, 0);
        c.due("in one bell they meet", x.fault(5, 0), 1);
        c.due("who", x.fault(-1, 0), 0);
        x.mend(0, 4, 4);
        Check.feed(x, "w=3?1;w=4?-4;5");
        c.due("of like ones the least", x.fault(-1, 0), 4);
        c.due("one 6", x.fault(6, 0), CastWithVows.BAD);
        c.due("one -2", x.fault(-2, 0), CastWithVows.BAD);
        for (int dh : NO_DAYS) {
            c.due("dh " + dh, x.fault(0, dh), CastWithVows.BAD);
        }
    }

    private static void wins() {
        c.promise("promise 16");
        CastWithVows x = new CastWithVows();
        c.due("none", x.win(0, 0), 0);
        c.due("none", x.win(0, 1), 0);
        x = threeBells();
        x.mend(0, 5, 1);
        x.mend(2, 5, 1);
        c.due("ahead of it", x.win(0, 0), 0);
        c.due("both", x.win(100, 0), 2);
        c.due("which", x.win(100, 1), 5);
        Check.feed(x, "k?0;w=3?3;w=4?-3;0");
        x.mend(1, 5, 1);
        c.due("two that meet", x.win(100, 0), 0);
        x.vow(0, 5);
        x.mend(3, 3, 3);
        x.mend(3, 5, 1);
        c.due("one of two alike", x.win(100, 0), 1);
        c.due("the least", x.win(100, 1), 1);
        Check.feed(x, "k?w=4;0");
        c.due("a kept one that cannot be won", x.win(0, 0), CastWithVows.NOT);
        c.due("likewise", x.win(0, 1), CastWithVows.NOT);
        c.due("broken it is still", x.win(100, 0), 0);
        Check.feed(x, "k?0;1");
        x.mend(1, 5, 999);
        c.due("as if they were kept that day", x.win(100, 1), 13);
        Check.feed(x, "k?d+1;0");
        c.due("d is 0 then", x.win(100, 1), CastWithVows.NOT);
        c.due("what 2", x.win(0, 2), CastWithVows.BAD);
        c.due("what -1", x.win(0, -1), CastWithVows.BAD);
        for (int dh : NO_DAYS) {
            c.due("dh " + dh, x.win(dh, 0), CastWithVows.BAD);
        }
        CastWithVows y = new CastWithVows();
        y.bell(1);
        for (int i = 0; i < 12; i++) {
            y.vow(0, 1);
            y.breaks(i);
        }
        Check.feed(y, "k?1;-1");
        c.due("half of twelve", y.win(0, 0), 6);
        c.due("the least half", y.win(0, 1), 63);
    }

    /** Vow 2 is off on day 100 alone, at hour 12 alone: each call must tell both apart. */
    private static void daysAndHours() {
        int[] dhs = {10012, 9912, 10112, 10011, 10013};
        for (int dh : dhs) {
            CastWithVows x = threeBells();
            x.mend(2, 5, 100);
            x.mend(2, 6, 101);
            x.mend(2, 4, 3);
            Check.feed(x, "k?0;h=12?1;0");
            int off = dh == 10012 ? 1 : 0;
            c.promise("promise 9, dh " + dh);
            c.due("puts", x.puts(2, dh), off);
            c.promise("promise 10, dh " + dh);
            c.due("pitch", x.pitch(1, dh, 0), 50 + off);
            c.promise("promise 11, dh " + dh);
            c.due("town", x.town(dh, 0), off);
            c.due("town", x.town(dh, 1), off == 1 ? 1 : CastWithVows.NOT);
            c.due("town", x.town(dh, 2), dh / 100 == 100 ? 1 : 0);
            c.due("town", x.town(dh, 3), off == 1 ? 2 : 0);
            c.promise("promise 12, dh " + dh);
            c.due("beats", x.beats(1, dh), 2 - off);
            c.promise("promise 13, dh " + dh);
            c.due("chime", x.chime(7, dh, 1), 2);
            c.due("chime of two", x.chime(6, dh, 0), 0);
            x.mend(1, 1, 10);
            c.due("chime of two", x.chime(6, dh, 0), 1 - off);
            c.promise("promise 14, dh " + dh);
            c.due("days", x.days(1, dh, 1), off);
            c.due("days", x.days(1, dh, 0), dh / 100 + off);
            c.promise("promise 15, dh " + dh);
            c.due("fault", x.fault(3, dh), off);
            c.due("fault", x.fault(-1, dh), 3 * off);
            c.promise("promise 16, dh " + dh);
            c.due("win", x.win(dh, 0), off);
            c.due("win", x.win(dh, 1), 4 * off);
        }
    }

    private static void silent() {
        c.promise("promise 17");
        CastWithVows x = threeBells();
        c.due("all are heard", x.silent(0, 0), 0);
        Check.feed(x, "w=4?0;w=5?!k*(d/3);h>11?9+!k;-!k");
        c.due("one", x.silent(0, 3), 2);
        c.due("as long as d is short", x.silent(0, 2), 6);
        c.due("held within 9", x.silent(12, 99), 3);
        c.due("the most", x.silent(23, 99), 3);
        c.due("hour 24", x.silent(24, 0), CastWithVows.BAD);
        c.due("hour -1", x.silent(-1, 0), CastWithVows.BAD);
        c.due("d 100", x.silent(0, 100), CastWithVows.BAD);
        c.due("d -1", x.silent(0, -1), CastWithVows.BAD);
        c.due("no vows", new CastWithVows().silent(0, 0), 0);
    }
}
