/** The edges of casting and draws, sentence by sentence: Terms 4, promises 22 to 25. */
public final class EdgesCastingTest {
    private static final int BAD = CastWithVows.BAD, NOT = CastWithVows.NOT, STATE = CastWithVows.STATE;
    private static final Check c = new Check();

    public static void main(String[] args) {
        castDays();
        castLikeOnes();
        castHours();
        castBad();
        meltFive();
        meltNoOther();
        meltNoVows();
        meltFirst();
        meltLaw();
        meltBad();
        pairsFewer();
        pairsFirst();
        pairsBad();
        drawnFaithless();
        drawnByHand();
        drawnAtFirst();
        drawnMeet();
        drawnBad();
        c.end();
    }

    private static CastWithVows bells(int n) {
        CastWithVows x = new CastWithVows();
        for (int i = 0; i < n; i++) {
            x.bell(50);
        }
        return x;
    }

    // ---- cast

    private static void castDays() {
        c.promise("CAST: on days 0 .. n (n 0 .. 99) as few BELLS as may be are OFF, day by day, together");
        CastWithVows x = bells(2);
        x.vow(1, 3);
        x.mend(0, 5, 0);
        c.due("day 0 alone", x.cast(0, 0, 1), 1);
        c.due("days 0, 1", x.cast(0, 100, 1), 2);
        c.due("days 0 .. 98", x.cast(0, 9800, 1), 99);
        c.due("days 0 .. 99", x.cast(0, 9923, 1), 100);
        x.mend(0, 5, 99);
        c.due("to the day ahead of it", x.cast(0, 9800, 1), 0);
        c.due("to the day itself", x.cast(0, 9900, 1), 1);
        x.mend(0, 5, 100);
        c.due("behind all", x.cast(0, 9900, 1), 0);
        x.mend(0, 5, 0);
        x.mend(0, 6, 1);
        c.due("day 0, of 0 .. 99", x.cast(0, 9900, 1), 1);
        c.promise("all BELLS are counted: six of them, 100 days");
        CastWithVows y = bells(6);
        for (int v = 0; v < 12; v++) {
            y.vow(v % 6, 9);
            y.mend(v, 5, 0);
        }
        c.due("600", y.cast(0, 9923, 1), 600);
        c.due("in any", y.cast(0, 9923, 0), 0);
        for (int v = 6; v < 12; v++) {
            y.mend(v, 6, 1);
        }
        c.due("500 and 1: a bell is even, but on day 0", y.cast(0, 9923, 1), 501);
        c.due("into another that is OFF", y.cast(0, 9923, 0), 1);
        c.due("nothing was cast", y.of(0, 2), 0);
    }

    private static void castLikeOnes() {
        c.promise("CAST: of like ones the least: which; its own BELL, too");
        CastWithVows x = bells(6);
        x.vow(5, 3);
        c.due("kept: 0", x.cast(0, 9900, 0), 0);
        x.breaks(0);
        c.due("broken: 0", x.cast(0, 9900, 0), 0);
        x.vow(4, 2);
        x.breaks(1);
        c.due("to the one that is OFF", x.cast(0, 9900, 0), 4);
        c.due("the other to its own", x.cast(1, 9900, 0), 5);
        Check.feed(x, "k?0;b=5?0;1");
        c.due("hushed in its own, but bell 4 is OFF anyhow", x.cast(0, 9900, 0), 4);
        c.due("then bell 4 alone is OFF", x.cast(0, 0, 1), 1);
        c.due("the last bell for the other, too", x.cast(1, 0, 0), 5);
        c.due("none is OFF then", x.cast(1, 0, 1), 0);
        x.mend(1, 5, 999);
        c.due("hushed in its own alone", x.cast(0, 9900, 0), 5);
        c.due("none is OFF then", x.cast(0, 9900, 1), 0);
        c.promise("one BELL: there is no choice");
        CastWithVows y = bells(1);
        y.vow(0, 4);
        c.due("which", y.cast(0, 9923, 0), 0);
        c.due("how many", y.cast(0, 9923, 1), 0);
        y.breaks(0);
        c.due("which", y.cast(0, 9923, 0), 0);
        c.due("how many", y.cast(0, 9923, 1), 100);
    }

    private static void castHours() {
        c.promise("CAST (nh: 100 n and the hour)");
        for (int hour = 0; hour <= 23; hour++) {
            for (int n : new int[] {0, 1, 5, 50, 98, 99}) {
                CastWithVows x = bells(3);
                x.vow(1, 3);
                x.breaks(0);
                Check.feed(x, "k?0;h=" + hour + "?b<2;b");
                c.due("which", x.cast(0, 100 * n + hour, 0), 2);
                c.due("how many", x.cast(0, 100 * n + hour, 1), 0);
                c.due("at the hour behind", x.cast(0, 100 * n + (hour + 1) % 24, 0), 0);
                c.due("at the hour ahead", x.cast(0, 100 * n + (hour + 23) % 24, 0), 0);
            }
        }
    }

    private static void castBad() {
        c.promise("cast: BAD");
        CastWithVows x = bells(2);
        x.vow(0, 3);
        int[] wrong = {-1, -100, 24, 99, 124, 199, 524, 9824, 9924, 9999, 10000, 10023, Integer.MIN_VALUE, Integer.MAX_VALUE};
        for (int nh : wrong) {
            c.due("nh " + nh, x.cast(0, nh, 0), BAD);
            c.due("nh " + nh, x.cast(0, nh, 1), BAD);
        }
        for (int nh : new int[] {0, 23, 100, 123, 9900, 9923}) {
            c.due("nh " + nh, x.cast(0, nh, 0), 0);
        }
        for (int vow : new int[] {-1, 1, 12, Integer.MIN_VALUE, Integer.MAX_VALUE}) {
            c.due("vow " + vow, x.cast(vow, 0, 0), BAD);
        }
        for (int what : new int[] {-1, 2, Integer.MIN_VALUE, Integer.MAX_VALUE}) {
            c.due("what " + what, x.cast(0, 0, what), BAD);
        }
    }

    // ---- melt

    private static void meltFive() {
        c.promise("MELT: STATE: it has more than 5");
        for (int n = 1; n <= 12; n++) {
            CastWithVows x = bells(6);
            for (int v = 0; v < n; v++) {
                x.vow(3, 2);
                x.breaks(v);
            }
            c.due(n + " vows, the fewest", x.melt(3, 99823, -1), n > 5 ? STATE : 1);
            c.due(n + " vows, the first", x.melt(3, 99823, 0), n > 5 ? STATE : 0);
            c.due(n + " vows, the last", x.melt(3, 99823, n - 1), n > 5 ? STATE : 0);
            c.due(n + " vows, BAD ahead of STATE", x.melt(3, 99823, n), BAD);
            c.due(n + " vows, BAD ahead of STATE", x.melt(3, 99824, -1), BAD);
            c.due("another bell has none", x.melt(2, 99823, -1), 1);
        }
        c.promise("BAD; STATE; NOT");
        CastWithVows x = bells(1);
        for (int v = 0; v < 6; v++) {
            x.vow(0, 1);
        }
        c.due("six, and no other bell", x.melt(0, 0, -1), STATE);
        c.due("six, and no other bell", x.melt(0, 0, 5), STATE);
        x.bell(50);
        x.vow(1, 1);
        c.due("six, and a vow of another bell", x.melt(0, 0, 6), STATE);
        x.mend(5, 2, 1);
        c.due("five, and a vow of another bell", x.melt(0, 0, 6), NOT);
    }

    private static void meltNoOther() {
        c.promise("MELT: NOT: there is no other BELL");
        CastWithVows x = bells(1);
        c.due("without a vow", x.melt(0, 0, -1), NOT);
        x.vow(0, 3);
        c.due("the fewest", x.melt(0, 0, -1), NOT);
        c.due("the bell", x.melt(0, 0, 0), NOT);
        x.bell(50);
        c.due("the fewest", x.melt(0, 0, -1), 0);
        c.due("the bell", x.melt(0, 0, 0), 1);
        c.promise("MELT: NOT: it is of another one");
        x.vow(1, 3);
        c.due("vow 1", x.melt(0, 0, 1), NOT);
        c.due("vow 0", x.melt(1, 0, 0), NOT);
        c.due("vow 1 of bell 1", x.melt(1, 0, 1), 0);
    }

    private static void meltNoVows() {
        c.promise("MELT of a BELL without VOWS: the others are counted as they are");
        CastWithVows x = bells(3);
        c.due("none OFF", x.melt(1, 0, -1), 0);
        x.vow(0, 3);
        x.vow(2, 3);
        x.breaks(0);
        c.due("one", x.melt(1, 0, -1), 1);
        x.breaks(1);
        c.due("two", x.melt(1, 0, -1), 2);
        c.due("the vow of another", x.melt(1, 0, 0), NOT);
    }

    private static void meltFirst() {
        c.promise("the BELL of a VOW in the first such (by VOWS, BELLS)");
        CastWithVows x = bells(6);
        for (int v = 0; v < 5; v++) {
            x.vow(0, 3);
        }
        c.due("all kept: none", x.melt(0, 0, -1), 0);
        for (int v = 0; v < 5; v++) {
            c.due("vow " + v, x.melt(0, 0, v), 1);
            x.breaks(v);
        }
        c.due("all broken: one", x.melt(0, 0, -1), 1);
        for (int v = 0; v < 5; v++) {
            c.due("vow " + v, x.melt(0, 0, v), 1);
        }
        x.vow(4, 1);
        x.breaks(5);
        c.due("to the one that is OFF", x.melt(0, 0, -1), 1);
        for (int v = 0; v < 5; v++) {
            c.due("vow " + v, x.melt(0, 0, v), 4);
        }
        c.promise("VOWS of other BELLS stay in them, with what they do");
        CastWithVows y = bells(4);
        y.vow(1, 9);
        y.vow(0, 4);
        y.vow(2, 5);
        y.vow(0, 5);
        y.vow(3, 1);
        y.vow(0, 2);
        for (int v = 0; v < 6; v++) {
            y.breaks(v);
        }
        Check.feed(y, "k?0;b?w*(1-2*(w=9|w=1));w");
        c.due("-9 in bell 1, 5 in bell 2, -1 in bell 3: bell 1 is made even", y.melt(0, 0, -1), 2);
        c.due("4", y.melt(0, 0, 1), 1);
        c.due("5", y.melt(0, 0, 3), 1);
        c.due("2 comes to one of the others", y.melt(0, 0, 5), 2);
        c.due("all of bell 1 to bell 0: it is even with them", y.melt(1, 0, -1), 3);
        c.due("nothing was cast", y.of(1, 2), 0);
        c.due("nothing was cast", y.of(5, 2), 0);
    }

    private static void meltLaw() {
        c.promise("MELT: the law knows the new BELL, the day and the hour");
        for (int hour = 0; hour <= 23; hour++) {
            CastWithVows x = bells(6);
            for (int v = 0; v < 5; v++) {
                x.vow(2, v + 1);
                x.mend(v, 5, 990);
            }
            Check.feed(x, "h=" + hour + "&d=8&!(b=6-w)?0;1");
            int dh = 99800 + hour;
            c.due("all but the one in 6 - w may be hushed", x.melt(2, dh, -1), 0);
            for (int v = 0; v < 5; v++) {
                c.due("vow " + v, x.melt(2, dh, v), 0);
            }
            c.due("the day ahead", x.melt(2, dh - 100, -1), 1);
            c.due("the hour behind", x.melt(2, 99800 + (hour + 1) % 24, -1), 1);
        }
        CastWithVows x = bells(6);
        for (int v = 0; v < 5; v++) {
            x.vow(2, v + 1);
        }
        Check.feed(x, "b=6-w|b+w=3|w=4?0;1");
        c.due("none OFF", x.melt(2, 0, -1), 0);
        int[] want = {5, 1, 0, 0, 1};
        for (int v = 0; v < 5; v++) {
            c.due("vow " + v, x.melt(2, 0, v), want[v]);
        }
    }

    private static void meltBad() {
        c.promise("melt: BAD");
        CastWithVows x = bells(2);
        x.vow(0, 3);
        for (int bell : new int[] {-1, 2, 6, Integer.MIN_VALUE, Integer.MAX_VALUE}) {
            c.due("bell " + bell, x.melt(bell, 0, -1), BAD);
            c.due("bell " + bell, x.melt(bell, 0, 0), BAD);
        }
        for (int vow : new int[] {-2, 1, 12, Integer.MIN_VALUE, Integer.MAX_VALUE}) {
            c.due("vow " + vow, x.melt(0, 0, vow), BAD);
        }
        for (int dh : Check.NO_DAY_HOURS) {
            c.due("dh " + dh, x.melt(0, dh, -1), BAD);
            c.due("BAD ahead of NOT, dh " + dh, bells(1).melt(0, dh, -1), BAD);
        }
        c.due("no bells", new CastWithVows().melt(0, 0, -1), BAD);
    }

    // ---- pairs

    private static void pairsFewer() {
        c.promise("PAIRS: fewer than now; NOT");
        c.due("no bells", new CastWithVows().pairs(0), NOT);
        c.due("no vows", bells(6).pairs(99823), NOT);
        CastWithVows x = bells(2);
        x.vow(0, 3);
        x.breaks(0);
        c.due("one vow", x.pairs(0), NOT);
        x.vow(0, 4);
        c.due("two of one bell", x.pairs(0), NOT);
        x.vow(1, 5);
        c.due("as many as now", x.pairs(0), NOT);
        x.breaks(2);
        c.due("both OFF: 1 for 2 leaves bell 0 alone OFF", x.pairs(0), 22);
        x.mend(1, 5, 0);
        c.due("no exchange helps", x.pairs(0), NOT);
        c.promise("PAIRS: of unlike BELLS");
        CastWithVows y = bells(2);
        y.vow(0, 3);
        y.vow(0, 4);
        Check.feed(y, "b?0;w");
        c.due("two of one bell that would do better elsewhere", y.pairs(0), NOT);
        y.mend(1, 2, 1);
        c.due("none fewer: 4 for 3", y.pairs(0), NOT);
    }

    private static void pairsFirst() {
        c.promise("PAIRS: 20 times the lesser and the other; of like ones the first");
        CastWithVows x = bells(2);
        for (int v = 0; v < 12; v++) {
            x.vow(v == 11 ? 1 : 0, v % 9 + 1);
        }
        Check.feed(x, "p=5?b=0;p=4?b=1;0");
        x.mend(10, 4, 5);
        x.mend(11, 4, 4);
        c.due("both OFF", x.town(0, 0), 2);
        c.due("the last two", x.pairs(0), 20 * 10 + 11);
        x.mend(3, 4, 5);
        c.due("two that must both go: bell 1 alone is mended", x.pairs(0), 11);
        x.mend(3, 4, 0);
        x.mend(10, 4, 0);
        x.mend(0, 4, 5);
        c.due("0 and 11", x.pairs(0), 11);
        x.mend(0, 4, 0);
        c.due("bell 1 alone: any of bell 0 for 11", x.pairs(0), 11);
        x.mend(11, 4, 0);
        c.due("none OFF", x.pairs(0), NOT);
        c.promise("PAIRS: fewest, not the first that is fewer");
        CastWithVows y = bells(4);
        for (int v = 0; v < 4; v++) {
            y.vow(v, v + 1);
        }
        Check.feed(y, "w<4&!(b=w)|w>3&!(b=2)");
        c.due("four OFF: 0 in 1, 1 in 2, 2 in 3, 3 in 2", y.town(0, 0), 4);
        c.due("2 for 3 puts both right, 0 for 1 but one", y.pairs(0), 43);
        c.due("nothing was exchanged", y.of(2, 2), 2);
        c.promise("PAIRS: on a day at an hour");
        for (int hour = 0; hour <= 23; hour++) {
            CastWithVows z = bells(2);
            z.vow(0, 1);
            z.vow(1, 2);
            z.mend(1, 5, 998);
            Check.feed(z, "k?0;b&h=" + hour);
            c.due("hour " + hour, z.pairs(99800 + hour), 1);
            c.due("the hour behind", z.pairs(99800 + (hour + 1) % 24), NOT);
            c.due("the day ahead", z.pairs(99700 + hour), NOT);
        }
    }

    private static void pairsBad() {
        c.promise("pairs: BAD");
        CastWithVows x = bells(2);
        x.vow(0, 3);
        x.vow(1, 3);
        for (int dh : Check.NO_DAY_HOURS) {
            c.due("dh " + dh, x.pairs(dh), BAD);
        }
        for (int dh : new int[] {0, 23, 99800, 99823}) {
            c.due("dh " + dh, x.pairs(dh), NOT);
        }
    }

    // ---- drawn

    private static void drawnFaithless() {
        c.promise("DRAWN: FAITHLESS (0 .. 12): none turns by 0, all turn by 12");
        CastWithVows x = bells(6);
        for (int v = 0; v < 12; v++) {
            x.vow(v % 6, 1);
        }
        for (int seed : new int[] {0, 1, -1, Integer.MIN_VALUE, Integer.MAX_VALUE}) {
            x.mend(0, 7, 0);
            c.due("none broken", x.drawn(seed, 2099, 900, 1), 0);
            c.due("none OFF", x.drawn(seed, 2099, 900, 0), 0);
            x.mend(0, 7, 12);
            c.due("one day: all broken", x.drawn(seed, 101, 998, 1), 12);
            c.due("one day: all OFF", x.drawn(seed, 101, 998, 0), 6);
            c.due("two days: none", x.drawn(seed, 102, 0, 1), 0);
            c.due("two days: none", x.drawn(seed, 102, 0, 0), 0);
            c.due("20 years of 99 days: all", x.drawn(seed, 2099, 0, 1), 240);
            c.due("20 years of 99 days: all", x.drawn(seed, 2099, 0, 0), 120);
            c.due("20 years of 98 days: none", x.drawn(seed, 2098, 0, 1), 0);
            c.due("20 years of a day: all", x.drawn(seed, 2001, 998, 1), 240);
        }
        c.due("no vows", bells(6).drawn(1, 2099, 0, 1), 0);
        c.due("no vows", bells(6).drawn(1, 2099, 0, 0), 0);
        c.due("no bells", new CastWithVows().drawn(1, 2099, 900, 0), 0);
    }

    /** How many are broken at the ends, and for how many days all of them together. */
    private static int[] byHand(int seed, int n, int m, int vows, int faithless) {
        int z = seed;
        int broken = 0;
        int days = 0;
        for (int year = 0; year < n; year++) {
            int[] since = new int[vows];
            for (int day = 1; day <= m; day++) {
                for (int v = 0; v < vows; v++) {
                    z = z * 1103515245 + 12345;
                    if ((z >>> 8) % 12 < faithless) {
                        since[v] = since[v] == 0 ? day : 0;
                    }
                }
            }
            for (int v = 0; v < vows; v++) {
                broken += since[v] != 0 ? 1 : 0;
                days += since[v] != 0 && m - since[v] == v ? 1 : 0;
            }
        }
        return new int[] {broken, days};
    }

    private static void drawnByHand() {
        c.promise("DRAWN: z = z * 1103515245 + 12345, ahead of each VOW of each day (VOWS by numbers)");
        int[] seeds = {0, 1, -1, 5, 12345, -98765, Integer.MIN_VALUE, Integer.MAX_VALUE};
        for (int faithless = 0; faithless <= 12; faithless++) {
            CastWithVows x = bells(6);
            for (int v = 0; v < 6; v++) {
                x.vow(5 - v, v + 1);
            }
            x.mend(0, 7, faithless);
            Check.feed(x, "k?0;d=w-1&h=12");
            for (int seed : seeds) {
                for (int nm : new int[] {101, 107, 2010, 399}) {
                    int[] want = byHand(seed, nm / 100, nm % 100, 6, faithless);
                    c.due("broken, drawn(" + seed + ", " + nm + ")", x.drawn(seed, nm, 40, 1), want[0]);
                    c.due("just w - 1 days, drawn(" + seed + ", " + nm + ")", x.drawn(seed, nm, 900, 0), want[1]);
                }
            }
        }
        c.promise("DRAWN: 1 at first");
        CastWithVows x = bells(1);
        x.vow(0, 1);
        for (int seed : seeds) {
            c.due("seed " + seed, x.drawn(seed, 2099, 0, 1), byHand(seed, 20, 99, 1, 1)[0]);
        }
    }

    private static void drawnAtFirst() {
        c.promise("DRAWN: KEPT that year (all are at first, whatever they are)");
        CastWithVows x = bells(2);
        x.vow(0, 3);
        x.vow(1, 4);
        x.mend(0, 7, 0);
        x.mend(0, 5, 0);
        x.mend(1, 5, 3);
        x.mend(1, 6, 4);
        c.due("none broken", x.drawn(1, 2099, 0, 1), 0);
        c.due("none OFF", x.drawn(1, 2099, 0, 0), 0);
        x.mend(0, 7, 12);
        c.due("all turn", x.drawn(1, 101, 3, 1), 2);
        c.due("all OFF", x.drawn(1, 101, 3, 0), 2);
        c.promise("DRAWN changes nothing");
        int[] want = {0, 999, 3, 4};
        for (int v = 0; v < 2; v++) {
            c.due("BROKEN of " + v, x.of(v, 5), want[2 * v]);
            c.due("AGAIN of " + v, x.of(v, 6), want[2 * v + 1]);
        }
        c.due("changes", x.count(3), 5);
        c.due("TODAY", x.of(0, 11), 0);
        c.due("led", x.led(0), 0);
        c.promise("DRAWN: BELLS that are OFF at the ends at hour 12");
        Check.feed(x, "h=12");
        c.due("at hour 12", x.drawn(1, 2001, 0, 0), 40);
        Check.feed(x, "!(h=12)");
        c.due("at no other", x.drawn(1, 2001, 0, 0), 0);
        c.promise("broken from that day on: d is 0 at the end of a year of one day");
        Check.feed(x, "k|d?0;1");
        c.due("one day", x.drawn(1, 2001, 0, 0), 40);
        x.mend(0, 7, 12);
        Check.feed(x, "k?0;d=0");
        c.due("three days: broken, kept, broken", x.drawn(1, 2003, 0, 0), 40);
    }

    private static void drawnMeet() {
        c.promise("DRAWN: what the VOWS of a BELL put it OFF, together");
        CastWithVows x = bells(2);
        x.vow(0, 3);
        x.vow(0, 4);
        x.vow(1, 5);
        x.mend(0, 7, 12);
        Check.feed(x, "k?0;w=3?2;w=4?-2;0");
        c.due("they meet", x.drawn(1, 101, 0, 0), 0);
        c.due("though broken", x.drawn(1, 101, 0, 1), 3);
        Check.feed(x, "k?0;w=3?2;w=4?-1;0");
        c.due("they do not", x.drawn(1, 2001, 0, 0), 20);
        Check.feed(x, "k?0;w=3?2;0");
        c.due("the first alone is OFF", x.drawn(1, 2001, 0, 0), 20);
        Check.feed(x, "k?1;w=3?1;w=4?-1;0");
        c.due("kept ones are OFF, too, at the ends", x.drawn(1, 2002, 0, 0), 40);
    }

    private static void drawnBad() {
        c.promise("drawn: BAD (also days beyond 998)");
        CastWithVows x = bells(2);
        x.vow(0, 3);
        x.mend(0, 7, 12);
        c.due("n 1, m 1", x.drawn(1, 101, 0, 1), 1);
        c.due("n 20, m 99", x.drawn(1, 2099, 0, 1), 20);
        int[] wrong = {
            -1, -101, -199, 0, 1, 99, 100, 200, 1900, 2000, 2100, 2101, 2199, 9901, Integer.MIN_VALUE, Integer.MAX_VALUE,
        };
        for (int nm : wrong) {
            c.due("nm " + nm, x.drawn(1, nm, 0, 0), BAD);
            c.due("nm " + nm, x.drawn(1, nm, 0, 1), BAD);
        }
        for (int m = 1; m <= 99; m += m == 1 || m == 98 ? 1 : 32) {
            int last = 999 - m;
            c.due("m " + m + " to 998", x.drawn(1, 2000 + m, last, 1), m % 2 * 20);
            c.due("m " + m + " to 999", x.drawn(1, 2000 + m, last + 1, 1), BAD);
            c.due("m " + m + " to 999, a year", x.drawn(1, 100 + m, last + 1, 0), BAD);
        }
        for (int day : new int[] {-1, -99, 999, 1000, Integer.MIN_VALUE, Integer.MAX_VALUE, Integer.MAX_VALUE - 50}) {
            c.due("day " + day, x.drawn(1, 199, day, 0), BAD);
            c.due("day " + day, x.drawn(1, 101, day, 1), BAD);
        }
        for (int what : new int[] {-1, 2, Integer.MIN_VALUE, Integer.MAX_VALUE}) {
            c.due("what " + what, x.drawn(1, 101, 0, what), BAD);
        }
    }
}
