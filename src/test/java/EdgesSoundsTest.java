/** The edges of what is sounded, sentence by sentence: Terms 2, promises 10 to 17. */
public final class EdgesSoundsTest {
    private static final int BAD = CastWithVows.BAD, NOT = CastWithVows.NOT, VOID = CastWithVows.VOID;
    private static final int[] ENDS = {0, 23, 99800, 99823};
    private static final Check c = new Check();

    public static void main(String[] args) {
        pitch();
        offHowMany();
        brokenHowMany();
        putsMost();
        beatsOfTwo();
        beatsByTune();
        beatsBelow();
        chimes();
        firstNotOff();
        howManyDays();
        faultOfOne();
        atFaultMost();
        winNothing();
        winFewest();
        winNot();
        silent();
        daysAndHours();
        c.end();
    }

    private static CastWithVows sixBells() {
        return Check.bells(0, 17, 34, 58, 81, 99);
    }

    // ---- pitch

    private static void pitch() {
        c.promise("pitch: PITCH (what 0), OFF (1) of a BELL");
        CastWithVows x = sixBells();
        x.vow(5, 9);
        x.vow(5, 8);
        x.mend(0, 5, 998);
        for (int dh : ENDS) {
            boolean last = dh >= 99800;
            c.due("bell 0, dh " + dh, x.pitch(0, dh, 0), 0);
            c.due("bell 5, dh " + dh, x.pitch(5, dh, 0), last ? 90 : 99);
            c.due("bell 5, OFF, dh " + dh, x.pitch(5, dh, 1), last ? -9 : 0);
        }
        c.promise("pitch: VOID: BAD");
        for (int what : new int[] {-1, 2, 3, Integer.MIN_VALUE, Integer.MAX_VALUE}) {
            c.due("what " + what, x.pitch(0, 0, what), VOID);
        }
        for (int bell : new int[] {-1, 6, 7, Integer.MIN_VALUE, Integer.MAX_VALUE}) {
            c.due("bell " + bell, x.pitch(bell, 0, 0), VOID);
        }
        for (int dh : Check.NO_DAY_HOURS) {
            c.due("dh " + dh, x.pitch(0, dh, 0), VOID);
            c.due("dh " + dh, x.pitch(0, dh, 1), VOID);
        }
        CastWithVows y = Check.bells(40);
        c.due("bell 1 of one", y.pitch(1, 0, 0), VOID);
        c.due("bell 0 of none", new CastWithVows().pitch(0, 0, 0), VOID);
    }

    // ---- town

    private static void offHowMany() {
        c.promise("how many BELLS are OFF (not 0), the first");
        CastWithVows none = new CastWithVows();
        c.due("no bells", none.town(0, 0), 0);
        c.due("no bells: no first", none.town(0, 1), NOT);
        CastWithVows x = sixBells();
        c.due("no vows", x.town(0, 0), 0);
        c.due("no vows: no first", x.town(0, 1), NOT);
        for (int b = 5; b >= 0; b--) {
            x.vow(b, 9);
            x.mend(5 - b, 5, 10 * (6 - b));
        }
        for (int n = 0; n <= 6; n++) {
            int dh = 1000 * n + 500;
            c.due("first on day " + dh / 100, x.town(dh, 1), n == 0 ? NOT : 6 - n);
            c.due("off on day " + dh / 100, x.town(dh, 0), n);
        }
        c.due("asked the first alone, on an earlier day", x.town(1500, 1), 5);
        c.due("asked the first alone, on the first day", x.town(0, 1), NOT);
        c.due("asked the first alone, on the last day", x.town(99823, 1), 0);
        c.due("the last day", x.town(99823, 0), 6);
        c.promise("OFF (not 0): what comes to 0 together is not OFF");
        CastWithVows y = Check.bells(40, 50);
        y.vow(0, 9);
        y.vow(0, 8);
        y.vow(1, 1);
        Check.feed(y, "w=9?9;w=8?-9;1");
        c.due("one", y.town(0, 0), 1);
        c.due("the other", y.town(0, 1), 1);
        Check.feed(y, "w=9?9;w=8?-8;-1");
        c.due("both, above and below", y.town(0, 0), 2);
        c.due("the first", y.town(0, 1), 0);
    }

    private static void brokenHowMany() {
        c.promise("how many VOWS are broken");
        CastWithVows x = Check.bells(40);
        c.due("no vows", x.town(0, 2), 0);
        for (int v = 0; v < 12; v++) {
            x.vow(0, 1);
        }
        c.due("none", x.town(99823, 2), 0);
        for (int v = 0; v < 12; v++) {
            x.mend(v, 5, 900 + v);
            c.due("on the last day", x.town(99823, 2), v + 1);
            c.due("on day " + (900 + v), x.town(90000 + 100 * v, 2), v + 1);
            c.due("ahead of it", x.town(89900 + 100 * v, 2), v);
        }
        Check.feed(x, "0");
        c.due("broken ones that put nothing OFF, too", x.town(99800, 2), 12);
        c.due("none is OFF", x.town(99800, 0), 0);
    }

    private static void putsMost() {
        c.promise("the one that puts its BELL OFF most (without sign; of like ones the least)");
        CastWithVows x = Check.bells(40, 50);
        c.due("NOT: no VOWS", x.town(0, 3), NOT);
        x.vow(0, 3);
        c.due("one that puts nothing", x.town(0, 3), 0);
        x.vow(0, 4);
        x.vow(1, 5);
        c.due("none puts any: the least", x.town(0, 3), 0);
        Check.feed(x, "w=3?-9;w=4?9;8");
        c.due("-9 ahead of 9", x.town(0, 3), 0);
        Check.feed(x, "w=3?8;w=4?-9;9");
        c.due("-9 ahead of 9, behind 8", x.town(0, 3), 1);
        Check.feed(x, "w=3?8;w=4?-8;-9");
        c.due("-9 is most", x.town(0, 3), 2);
        Check.feed(x, "w=3?0;w=4?0;-1");
        c.due("-1 is more than 0", x.town(0, 3), 2);
        Check.feed(x, "w=3?-100;w=4?-9;9999");
        c.due("all held: the least", x.town(0, 3), 0);
        c.promise("town: BAD");
        for (int what : new int[] {-1, 4, 5, Integer.MIN_VALUE, Integer.MAX_VALUE}) {
            c.due("what " + what, x.town(0, what), BAD);
        }
        for (int what = 0; what <= 3; what++) {
            for (int dh : Check.NO_DAY_HOURS) {
                c.due("dh " + dh, x.town(dh, what), BAD);
            }
        }
        c.due("BAD ahead of NOT", new CastWithVows().town(24, 1), BAD);
    }

    // ---- beats, chimes

    private static int beats(int apart, int tune) {
        int rest = apart % tune;
        return rest < tune - rest ? rest : tune - rest;
    }

    private static void beatsOfTwo() {
        c.promise("BEATS (ab: 10 times the one and the other, unlike)");
        int[] tones = {0, 17, 34, 58, 81, 99};
        for (int count = 0; count <= 6; count++) {
            CastWithVows x = new CastWithVows();
            for (int b = 0; b < count; b++) {
                x.bell(tones[b]);
            }
            for (int ab = -12; ab <= 70; ab++) {
                int a = ab / 10;
                int b = ab % 10;
                boolean two = ab >= 0 && a < count && b < count && a != b;
                int want = two ? beats(Math.abs(tones[a] - tones[b]), 12) : BAD;
                c.due("beats(" + ab + ") of " + count + " bells", x.beats(ab, 0), want);
            }
        }
        c.promise("beats: BAD");
        CastWithVows x = sixBells();
        for (int ab : new int[] {100, 101, 110, 1001, Integer.MIN_VALUE, -2147483646, Integer.MAX_VALUE, 2147483601}) {
            c.due("ab " + ab, x.beats(ab, 0), BAD);
        }
        for (int dh : Check.NO_DAY_HOURS) {
            c.due("dh " + dh, x.beats(45, dh), BAD);
        }
        for (int dh : ENDS) {
            c.due("dh " + dh, x.beats(45, dh), 6);
        }
    }

    private static void beatsByTune() {
        c.promise("by TUNE of the BELL of lesser number: the lesser of the remainder and TUNE less it");
        int[] aparts = {0, 1, 11, 12, 13, 23, 24, 25, 47, 48, 98, 99};
        for (int apart : aparts) {
            for (boolean up : new boolean[] {false, true}) {
                CastWithVows x = Check.bells(up ? 0 : apart, up ? apart : 0);
                x.mend(1, 1, 5);
                for (int tune = 1; tune <= 24; tune++) {
                    x.mend(0, 1, tune);
                    int want = beats(apart, tune);
                    c.due(apart + " apart by " + tune, x.beats(1, 0), want);
                    c.due(apart + " apart by " + tune + ", turned", x.beats(10, 0), want);
                }
            }
        }
        CastWithVows x = Check.bells(0, 6);
        c.due("just half of TUNE", x.beats(1, 0), 6);
        x.mend(0, 1, 13);
        c.due("6 of 13", x.beats(1, 0), 6);
        x.mend(0, 1, 11);
        c.due("5 is less than 6 of 11", x.beats(1, 0), 5);
        x.mend(0, 1, 6);
        c.due("a whole TUNE: none", x.beats(1, 0), 0);
        x.mend(0, 1, 1);
        c.due("TUNE 1: none", x.beats(1, 0), 0);
    }

    private static void beatsBelow() {
        c.promise("how far their PITCHES are apart: below 0 and far above, too");
        CastWithVows x = Check.bells(0, 99);
        for (int v = 0; v < 12; v++) {
            x.vow(v % 2, 1);
        }
        Check.feed(x, "b?9;-9");
        x.mend(0, 1, 24);
        c.due("-54 and 153: 207 apart, by 24", x.beats(1, 0), 9);
        x.mend(0, 1, 23);
        c.due("-54 and 153: by 23", x.beats(10, 0), 0);
        x.mend(0, 1, 22);
        c.due("-54 and 153: by 22", x.beats(10, 0), 9);
        c.due("no pair without", x.chime(3, 0, 0), 0);
    }

    private static void chimes() {
        c.promise("CHIME of a set of BELLS (bits)");
        int[] tones = {10, 22, 13, 34, 19, 25};
        for (int count = 0; count <= 6; count++) {
            CastWithVows x = new CastWithVows();
            for (int b = 0; b < count; b++) {
                x.bell(tones[b]);
            }
            for (int set = 0; set < 1 << count; set++) {
                int pure = 0;
                int pair = NOT;
                int most = -1;
                for (int a = 0; a < count; a++) {
                    for (int b = a + 1; b < count; b++) {
                        if ((set & 1 << a) != 0 && (set & 1 << b) != 0) {
                            int beats = beats(Math.abs(tones[a] - tones[b]), 12);
                            pure += beats == 0 ? 1 : 0;
                            pair = beats > most ? 10 * a + b : pair;
                            most = Math.max(most, beats);
                        }
                    }
                }
                c.due("pairs without in " + set + " of " + count, x.chime(set, 0, 0), pure);
                c.due("pair with most in " + set + " of " + count, x.chime(set, 0, 1), pair);
            }
            c.due("a bell that is not there", x.chime(1 << count, 0, 0), BAD);
            c.due("a bell that is not there", x.chime(1 << count, 0, 1), BAD);
            c.due("it with all others", x.chime((2 << count) - 1, 0, 0), BAD);
        }
        c.promise("NOT: fewer than two; pairs without: 0");
        CastWithVows x = sixBells();
        for (int set : new int[] {0, 1, 2, 4, 8, 16, 32}) {
            c.due("set " + set, x.chime(set, 0, 1), NOT);
            c.due("set " + set, x.chime(set, 0, 0), 0);
        }
        c.promise("of like ones the first");
        CastWithVows y = Check.bells(5, 5, 5, 5, 5, 5);
        c.due("all without", y.chime(63, 0, 0), 15);
        c.due("most is none: the first", y.chime(63, 0, 1), 1);
        c.due("the first of the set", y.chime(52, 0, 1), 24);
        c.promise("chime: BAD");
        for (int set : new int[] {-1, -64, 64, 65, 127, 1 << 30, Integer.MIN_VALUE, Integer.MAX_VALUE}) {
            c.due("set " + set, x.chime(set, 0, 0), BAD);
        }
        for (int what : new int[] {-1, 2, Integer.MIN_VALUE, Integer.MAX_VALUE}) {
            c.due("what " + what, x.chime(63, 0, what), BAD);
        }
        for (int dh : Check.NO_DAY_HOURS) {
            c.due("dh " + dh, x.chime(63, dh, 0), BAD);
            c.due("BAD ahead of NOT, dh " + dh, x.chime(0, dh, 1), BAD);
        }
    }

    // ---- days

    private static void firstNotOff() {
        c.promise("DAYS: the first day from one on on which a BELL is not OFF at an hour; NOT to 998");
        CastWithVows x = Check.bells(40, 50);
        c.due("at once", x.days(0, 0, 0), 0);
        c.due("at once, on the last day", x.days(0, 99823, 0), 998);
        x.vow(0, 5);
        x.mend(0, 5, 0);
        c.due("never", x.days(0, 0, 0), NOT);
        c.due("nor on the last day", x.days(0, 99823, 0), NOT);
        x.mend(0, 6, 998);
        c.due("on the last day", x.days(0, 0, 0), 998);
        c.due("on the last day", x.days(0, 99700, 0), 998);
        c.due("on the last day", x.days(0, 99800, 0), 998);
        x.mend(0, 6, 999);
        c.due("999 is none", x.days(0, 99700, 0), NOT);
        x.mend(0, 5, 997);
        x.mend(0, 6, 998);
        c.due("the day ahead", x.days(0, 99600, 0), 996);
        c.due("the day behind", x.days(0, 99700, 0), 998);
        c.due("the other bell", x.days(1, 99700, 0), 997);
        Check.feed(x, "h-23");
        c.due("at hour 23", x.days(0, 23, 0), 0);
        c.due("at hour 22", x.days(0, 22, 0), NOT);
    }

    private static void howManyDays() {
        c.promise("how many days of n (1 .. 999; to 998 at most) it is OFF");
        CastWithVows x = Check.bells(40, 50);
        x.vow(0, 5);
        x.mend(0, 5, 3);
        x.mend(0, 6, 996);
        c.due("1, not OFF", x.days(0, 200, 1), 0);
        c.due("1, OFF", x.days(0, 300, 1), 1);
        c.due("2", x.days(0, 200, 2), 1);
        c.due("999", x.days(0, 0, 999), 993);
        c.due("998", x.days(0, 0, 998), 993);
        c.due("the last that is OFF", x.days(0, 99500, 1), 1);
        c.due("none behind", x.days(0, 99600, 999), 0);
        x.mend(0, 6, 999);
        c.due("to 998 at most, from 996", x.days(0, 99600, 3), 3);
        c.due("to 998 at most, from 996", x.days(0, 99600, 4), 3);
        c.due("to 998 at most, from 996", x.days(0, 99600, 999), 3);
        c.due("to 998 at most, from 998", x.days(0, 99823, 1), 1);
        c.due("to 998 at most, from 998", x.days(0, 99823, 999), 1);
        x.mend(0, 5, 0);
        c.due("all", x.days(0, 0, 999), 999);
        c.due("all but one", x.days(0, 0, 998), 998);
        c.due("all but the first", x.days(0, 100, 999), 998);
        c.due("the other bell", x.days(1, 0, 999), 0);
        c.promise("days: BAD");
        for (int n : new int[] {-1, 1000, 1001, Integer.MIN_VALUE, Integer.MAX_VALUE}) {
            c.due("n " + n, x.days(0, 0, n), BAD);
            c.due("n " + n + " from 998", x.days(0, 99800, n), BAD);
        }
        for (int bell : new int[] {-1, 2, 6, Integer.MIN_VALUE, Integer.MAX_VALUE}) {
            c.due("bell " + bell, x.days(bell, 0, 0), BAD);
            c.due("bell " + bell, x.days(bell, 0, 1), BAD);
        }
        for (int dh : Check.NO_DAY_HOURS) {
            c.due("dh " + dh, x.days(0, dh, 0), BAD);
            c.due("dh " + dh, x.days(0, dh, 999), BAD);
        }
    }

    // ---- fault

    private static void faultOfOne() {
        c.promise("FAULT of one: by how much its VOWS alone put all BELLS OFF, without signs, BELL by BELL, together");
        CastWithVows x = sixBells();
        for (int one = 0; one <= 5; one++) {
            c.due("no vows, one " + one, x.fault(one, 0), 0);
        }
        for (int v = 0; v < 12; v++) {
            x.vow(v % 6, v % 9 + 1);
            x.mend(v, 4, 5);
        }
        Check.feed(x, "b%2?-9;9");
        c.due("two times 9 in each of six", x.fault(5, 0), 108);
        for (int one = 0; one <= 4; one++) {
            c.due("one " + one, x.fault(one, 0), 0);
        }
        for (int v = 0; v < 12; v++) {
            x.mend(v, 4, v / 6 * 5);
        }
        c.due("one has one in each", x.fault(0, 0), 54);
        c.due("another the other", x.fault(5, 0), 54);
        Check.feed(x, "p?9;-9");
        c.due("what another does is not counted", x.fault(0, 0), 54);
        c.due("though no bell is OFF", x.town(0, 0), 0);
        for (int v = 0; v < 12; v++) {
            x.mend(v, 4, 3);
        }
        Check.feed(x, "w<4?9;w<7?-9;0");
        c.due("its own that meet in three of the bells come to 0", x.fault(3, 0), 27);
        c.promise("fault: BAD");
        for (int one : new int[] {-2, 6, 7, Integer.MIN_VALUE, Integer.MAX_VALUE}) {
            c.due("one " + one, x.fault(one, 0), BAD);
        }
        for (int dh : Check.NO_DAY_HOURS) {
            c.due("one 0, dh " + dh, x.fault(0, dh), BAD);
            c.due("one -1, dh " + dh, x.fault(-1, dh), BAD);
        }
    }

    private static void atFaultMost() {
        c.promise("who is at FAULT most (of like ones the least)");
        CastWithVows none = new CastWithVows();
        c.due("no vows: 0", none.fault(-1, 99823), 0);
        CastWithVows x = Check.bells(40, 50);
        for (int v = 0; v < 6; v++) {
            x.vow(v % 2, 2);
            x.mend(v, 4, v);
        }
        c.due("none is OFF", x.fault(-1, 0), 0);
        for (int who = 0; who <= 5; who++) {
            x.mend(who, 5, 10 - who);
            c.due("on day 10", x.fault(-1, 1000), 0);
            c.due("on the day that is its alone", x.fault(-1, 1000 - 100 * who), who);
            c.due("the day ahead, none", x.fault(-1, 900 - 100 * who), 0);
        }
        x.mend(3, 3, 3);
        c.due("3 is more than 2", x.fault(-1, 1000), 3);
        x.mend(5, 3, 3);
        c.due("of 3 and 3 the least", x.fault(-1, 1000), 3);
        x.mend(5, 3, 4);
        c.due("4 is more than 3", x.fault(-1, 1000), 5);
        Check.feed(x, "p=1?-9;p=4?9;1");
        c.due("without signs: the least", x.fault(-1, 1000), 1);
    }

    // ---- win

    private static void winNothing() {
        c.promise("WIN: none must be KEPT again: 0, no bits");
        CastWithVows x = new CastWithVows();
        for (int dh : ENDS) {
            c.due("no bells", x.win(dh, 0), 0);
            c.due("no bells", x.win(dh, 1), 0);
        }
        x = Check.bells(40);
        x.vow(0, 5);
        c.due("a kept one", x.win(99823, 0), 0);
        c.due("a kept one", x.win(99823, 1), 0);
        x.breaks(0);
        Check.feed(x, "k");
        c.due("a broken one that does nothing", x.win(0, 0), 0);
        c.due("a broken one that does nothing", x.win(0, 1), 0);
        c.promise("win: BAD");
        for (int what : new int[] {-1, 2, Integer.MIN_VALUE, Integer.MAX_VALUE}) {
            c.due("what " + what, x.win(0, what), BAD);
        }
        for (int dh : Check.NO_DAY_HOURS) {
            c.due("dh " + dh, x.win(dh, 0), BAD);
            c.due("dh " + dh, x.win(dh, 1), BAD);
        }
    }

    private static void winFewest() {
        c.promise("the fewest VOWS broken that must be KEPT again; which (bits; of like ones the least)");
        CastWithVows x = Check.bells(40);
        for (int w = 1; w <= 5; w++) {
            x.vow(0, w);
            x.mend(w - 1, 5, w < 5 ? 0 : 999);
        }
        Check.feed(x, "w=5?-5;k?0;w");
        c.due("10, less 5: two", x.win(0, 0), 2);
        c.due("2 and 3, not 1 and 4", x.win(0, 1), 6);
        Check.feed(x, "w=5?-4;k?0;w");
        c.due("10, less 4: two", x.win(0, 0), 2);
        c.due("2 and 4, as 1, 2 and 3 are more", x.win(0, 1), 10);
        Check.feed(x, "w=5?-8;k?0;w");
        c.due("10, less 8: one", x.win(0, 0), 1);
        c.due("2", x.win(0, 1), 2);
        Check.feed(x, "w=5?-9;k?0;w");
        c.due("10, less 9: one", x.win(0, 1), 1);
        Check.feed(x, "w=5?0;k?0;w");
        c.due("all four", x.win(0, 0), 4);
        c.due("all four", x.win(0, 1), 15);
        CastWithVows y = sixBells();
        for (int v = 0; v < 12; v++) {
            y.vow(v % 6, 9);
            y.mend(v, 5, 998);
        }
        c.due("all twelve", y.win(99823, 0), 12);
        c.due("all twelve", y.win(99823, 1), 4095);
        c.due("the day ahead", y.win(99723, 1), 0);
        Check.feed(y, "k?2;1");
        c.due("none can be put right", y.win(99823, 0), NOT);
        Check.feed(y, "k?1;-1");
        c.due("one in each bell", y.win(99823, 0), 6);
        c.due("the lesser in each", y.win(99823, 1), 63);
        c.due("all kept: nothing to win, and OFF", y.win(0, 1), NOT);
        c.promise("WIN changes nothing");
        c.due("broken still", y.town(99823, 2), 12);
        c.due("AGAIN stays", y.of(0, 6), 999);
    }

    private static void winNot() {
        c.promise("WIN: NOT");
        CastWithVows x = Check.bells(40, 50);
        x.vow(0, 5);
        x.vow(1, 6);
        x.breaks(0);
        x.breaks(1);
        Check.feed(x, "k*(w=6)-!k");
        c.due("how many", x.win(0, 0), NOT);
        c.due("which", x.win(0, 1), NOT);
        x.mend(1, 2, 0);
        c.due("in one bell they meet: the 6 kept, the 5 broken", x.win(0, 0), 1);
        c.due("the 6 must be won", x.win(0, 1), 2);
        Check.feed(x, "k*(w=6)-!k*(w=5)");
        c.due("the 6 kept, or the 5", x.win(0, 0), 1);
        c.due("of like ones the least", x.win(0, 1), 1);
        c.promise("as if they were KEPT that day: d is 0, k is 1");
        Check.feed(x, "d?1;0");
        c.due("broken for days", x.win(500, 1), 3);
        Check.feed(x, "d|!k?1;d");
        c.due("broken today", x.win(0, 1), 3);
    }

    // ---- silent

    private static void silent() {
        c.promise("SILENT: d (0 .. 99), at an hour (0 .. 23)");
        CastWithVows x = Check.bells(40);
        c.due("no vows", x.silent(0, 0), 0);
        c.due("no vows", x.silent(23, 99), 0);
        for (int v = 0; v < 12; v++) {
            x.vow(0, v % 9 + 1);
        }
        c.due("without a text none", x.silent(0, 0), 0);
        Check.feed(x, "0");
        c.due("all", x.silent(23, 99), 4095);
        Check.feed(x, "k?0;d");
        c.due("d 0 is alike", x.silent(0, 0), 4095);
        c.due("d 1 is not", x.silent(0, 1), 0);
        Check.feed(x, "k?9;d");
        c.due("d 8", x.silent(0, 8), 0);
        c.due("d 9", x.silent(0, 9), 4095);
        c.due("held within 9", x.silent(0, 99), 4095);
        Check.feed(x, "k?0;h-23");
        c.due("hour 23", x.silent(23, 0), 4095);
        c.due("hour 22", x.silent(22, 0), 0);
        Check.feed(x, "k?0;w-9");
        c.due("one", x.silent(0, 0), 1 << 8);
        x.mend(11, 3, 9);
        c.due("the last, too", x.silent(0, 0), 1 << 8 | 1 << 11);
        c.due("broken or not", x.breaks(8), 1);
        c.due("is not asked", x.silent(0, 0), 1 << 8 | 1 << 11);
        c.promise("silent: BAD");
        for (int hour : new int[] {-1, 24, Integer.MIN_VALUE, Integer.MAX_VALUE}) {
            c.due("hour " + hour, x.silent(hour, 0), BAD);
        }
        for (int d : new int[] {-1, 100, Integer.MIN_VALUE, Integer.MAX_VALUE}) {
            c.due("d " + d, x.silent(0, d), BAD);
        }
    }

    /** All days and hours that there are, for each call that takes them: 998 and 23 are the last. */
    private static void daysAndHours() {
        c.promise("on a day (0 .. 998) at an hour (0 .. 23)");
        for (int day : new int[] {0, 1, 500, 997, 998}) {
            for (int hour = 0; hour <= 23; hour++) {
                CastWithVows x = Check.bells(40, 50);
                x.vow(0, 7);
                x.mend(0, 5, day);
                x.mend(0, 6, day + 1);
                Check.feed(x, "k?0;h=" + hour + "?5;0");
                int dh = 100 * day + hour;
                c.due("puts", x.puts(0, dh), 5);
                c.due("pitch", x.pitch(0, dh, 0), 45);
                c.due("town", x.town(dh, 0), 1);
                c.due("beats", x.beats(1, dh), 5);
                c.due("chime", x.chime(3, dh, 0), 0);
                c.due("days", x.days(0, dh, 1), 1);
                c.due("days", x.days(0, dh, 0), day == 998 ? NOT : day + 1);
                c.due("fault", x.fault(0, dh), 5);
                c.due("win", x.win(dh, 1), 1);
                c.due("the hour behind", x.town(100 * day + (hour + 1) % 24, 0), 0);
                c.due("the hour ahead", x.town(100 * day + (hour + 23) % 24, 0), 0);
                c.due("the day behind", x.town(dh + 100, 0), day == 998 ? BAD : 0);
                c.due("the day ahead", x.town(dh - 100, 0), day == 0 ? BAD : 0);
            }
        }
    }
}
