/** Promises 22 to 25: into which bell, melting, exchanges, years by draws. */
public final class CastingTest {
    private static final Check c = new Check();
    private static final int[] NO_DAYS = {-1, 24, 124, 99824, 99900, Integer.MAX_VALUE, Integer.MIN_VALUE};

    public static void main(String[] args) {
        cast();
        melt();
        pairs();
        drawn();
        drawnByHand();
        daysAndHours();
        c.end();
    }

    private static CastWithVows bells(int n) {
        CastWithVows x = new CastWithVows();
        for (int i = 0; i < n; i++) {
            x.bell(50);
        }
        return x;
    }

    private static void cast() {
        c.promise("promise 22");
        CastWithVows x = bells(3);
        x.vow(2, 3);
        x.vow(1, 4);
        c.due("of like ones the least", x.cast(0, 500, 0), 0);
        c.due("how many", x.cast(0, 500, 1), 0);
        x.mend(0, 5, 2);
        x.mend(1, 5, 4);
        c.due("to the other broken one", x.cast(0, 500, 0), 1);
        c.due("days 2 to 5", x.cast(0, 500, 1), 4);
        c.due("to day 1", x.cast(0, 100, 1), 0);
        c.due("to day 1", x.cast(0, 100, 0), 0);
        c.due("to day 99", x.cast(0, 9923, 1), 98);
        Check.feed(x, "k?0;b=2?0;w=4?w;-w");
        c.due("the law knows the new bell", x.cast(0, 500, 0), 2);
        c.due("vow 1 alone is off on days 4, 5", x.cast(0, 500, 1), 2);
        Check.feed(x, "k?0;w=4?3;-w");
        c.due("the two meet from day 4 on", x.cast(0, 9900, 0), 1);
        c.due("off on days 2, 3", x.cast(0, 9900, 1), 2);
        c.due("nothing was cast", x.of(0, 2), 2);
        x.mend(0, 5, 0);
        x.mend(0, 6, 1);
        c.due("day 0 counts", x.cast(0, 0, 1), 1);
        c.due("and is all that does", x.cast(0, 300, 1), 1);
        c.due("vow 2", x.cast(2, 0, 0), CastWithVows.BAD);
        c.due("vow -1", x.cast(-1, 0, 0), CastWithVows.BAD);
        c.due("n 100", x.cast(0, 10000, 0), CastWithVows.BAD);
        c.due("hour 24", x.cast(0, 24, 0), CastWithVows.BAD);
        c.due("nh -1", x.cast(0, -1, 0), CastWithVows.BAD);
        c.due("what 2", x.cast(0, 0, 2), CastWithVows.BAD);
        c.due("what -1", x.cast(0, 0, -1), CastWithVows.BAD);
    }

    private static void melt() {
        c.promise("promise 23");
        CastWithVows x = bells(1);
        x.vow(0, 3);
        c.due("no other bell", x.melt(0, 0, -1), CastWithVows.NOT);
        c.due("no other bell", x.melt(0, 0, 0), CastWithVows.NOT);
        for (int i = 1; i < 6; i++) {
            x.vow(0, 1);
        }
        c.due("more than 5, ahead of NOT", x.melt(0, 0, -1), CastWithVows.STATE);
        c.due("BAD ahead of STATE", x.melt(0, 0, 6), CastWithVows.BAD);
        x.bell(50);
        x.bell(50);
        c.due("more than 5", x.melt(0, 0, -1), CastWithVows.STATE);
        x.mend(5, 2, 1);
        c.due("five", x.melt(0, 0, -1), 0);
        for (int v = 0; v < 5; v++) {
            c.due("the first way: vow " + v, x.melt(0, 0, v), 1);
        }
        c.due("of another bell", x.melt(0, 0, 5), CastWithVows.NOT);
        c.due("vow 0 of another bell", x.melt(1, 0, 0), CastWithVows.NOT);
        c.due("without vows", x.melt(2, 0, -1), 0);
        for (int v = 0; v < 6; v++) {
            x.mend(v, 5, 1);
        }
        c.due("all in one", x.melt(0, 100, -1), 1);
        c.due("the bell that is off already", x.melt(0, 100, 0), 1);
        Check.feed(x, "k?0;w=3?3;-1");
        c.due("3 against three of the five: two left meet nobody", x.melt(0, 100, -1), 1);
        c.due("the first vow", x.melt(0, 100, 0), 1);
        Check.feed(x, "k?0;w=3?3;b=2?0;-1");
        c.due("3 against 1 and two more, two hushed in bell 2", x.melt(0, 100, -1), 0);
        int[] first = {1, 1, 1, 2, 2};
        for (int v = 0; v < 5; v++) {
            c.due("the first of the best: vow " + v, x.melt(0, 100, v), first[v]);
        }
        c.due("nothing was cast", x.of(4, 2), 0);
        CastWithVows y = bells(2);
        y.vow(1, 3);
        y.vow(0, 4);
        y.breaks(0);
        c.due("two bells: to the only other", y.melt(1, 0, 0), 0);
        c.due("which is off then", y.melt(1, 0, -1), 1);
        c.due("the other way", y.melt(0, 0, 1), 1);
        c.due("bell 3", x.melt(3, 0, -1), CastWithVows.BAD);
        c.due("bell -1", x.melt(-1, 0, -1), CastWithVows.BAD);
        c.due("vow 6", x.melt(0, 0, 6), CastWithVows.BAD);
        c.due("vow -2", x.melt(0, 0, -2), CastWithVows.BAD);
        for (int dh : NO_DAYS) {
            c.due("dh " + dh, x.melt(0, dh, -1), CastWithVows.BAD);
        }
    }

    private static void pairs() {
        c.promise("promise 24");
        c.due("no vows", bells(2).pairs(0), CastWithVows.NOT);
        CastWithVows x = bells(3);
        x.vow(0, 3);
        x.vow(0, 5);
        x.vow(1, 2);
        x.vow(1, 5);
        c.due("none off", x.pairs(0), CastWithVows.NOT);
        x.mend(0, 5, 0);
        x.mend(2, 5, 0);
        c.due("0 and 3: both broken in bell 1", x.pairs(0), 3);
        x.mend(1, 5, 0);
        c.due("no exchange helps", x.pairs(0), CastWithVows.NOT);
        x.mend(1, 5, 999);
        Check.feed(x, "k?0;b=1?-9;w=2?0;-3");
        c.due("0 with 2, and 0 with 3, leave one: the first", x.pairs(0), 2);
        Check.feed(x, "k?0;w=3?b=0;w=2?b=1;0");
        c.due("both are hushed when they are exchanged", x.pairs(0), 2);
        x.mend(3, 2, 2);
        c.due("the first of like ones", x.pairs(0), 2);
        c.due("nothing was exchanged", x.of(0, 2), 0);
        CastWithVows y = bells(2);
        y.vow(0, 5);
        y.vow(0, 3);
        y.vow(1, 3);
        Check.feed(y, "b?w=3;w=5");
        c.due("bell 0 is off by vow 0, bell 1 by vow 2", y.town(0, 0), 2);
        c.due("exchanged, 0 and 2 are both hushed", y.pairs(0), 2);
        Check.feed(y, "w=5?0;b?!k;k");
        y.mend(2, 5, 0);
        c.due("1 and 2, next to each other", y.pairs(0), 22);
        for (int dh : NO_DAYS) {
            c.due("dh " + dh, x.pairs(dh), CastWithVows.BAD);
        }
    }

    private static void drawn() {
        c.promise("promise 25");
        CastWithVows x = bells(2);
        x.vow(0, 3);
        x.vow(0, 4);
        x.vow(1, 5);
        x.mend(0, 7, 12);
        c.due("all turn each day: one day", x.drawn(7, 101, 0, 0), 2);
        c.due("all turn each day: one day", x.drawn(7, 101, 0, 1), 3);
        c.due("twice", x.drawn(7, 102, 0, 1), 0);
        c.due("each year begins anew", x.drawn(7, 2003, 0, 1), 60);
        c.due("each year begins anew", x.drawn(7, 2003, 0, 0), 40);
        x.mend(0, 7, 0);
        x.breaks(0);
        c.due("all are kept at first, whatever they are", x.drawn(7, 2099, 0, 1), 0);
        c.due("nor off", x.drawn(7, 2099, 0, 0), 0);
        x.mend(0, 7, 12);
        Check.feed(x, "k?0;h=12?d+1;0");
        c.due("at hour 12, with d 0 at the end", x.drawn(7, 105, 0, 0), 2);
        Check.feed(x, "h-12");
        c.due("at hour 12", x.drawn(7, 105, 0, 0), 0);
        c.due("to 998", x.drawn(7, 2099, 900, 1), 60);
        c.due("beyond", x.drawn(7, 2099, 901, 1), CastWithVows.BAD);
        c.due("n 0", x.drawn(7, 1, 0, 0), CastWithVows.BAD);
        c.due("n 21", x.drawn(7, 2101, 0, 0), CastWithVows.BAD);
        c.due("m 0", x.drawn(7, 100, 0, 0), CastWithVows.BAD);
        c.due("nm -101", x.drawn(7, -101, 0, 0), CastWithVows.BAD);
        c.due("day -1", x.drawn(7, 101, -1, 0), CastWithVows.BAD);
        c.due("day 999", x.drawn(7, 101, 999, 0), CastWithVows.BAD);
        c.due("far day", x.drawn(7, 101, Integer.MAX_VALUE, 0), CastWithVows.BAD);
        c.due("what 2", x.drawn(7, 101, 0, 2), CastWithVows.BAD);
        c.due("what -1", x.drawn(7, 101, 0, -1), CastWithVows.BAD);
    }

    /** Vow 0 is off on day 100 alone, at hour 12 alone, but not in bell 2: each call must tell both apart. */
    private static void daysAndHours() {
        int[] dhs = {10012, 9912, 10112, 10011, 10013};
        for (int dh : dhs) {
            CastWithVows x = bells(3);
            x.vow(1, 3);
            x.vow(2, 4);
            x.mend(0, 5, 100);
            x.mend(0, 6, 101);
            Check.feed(x, "k?0;h=12?b<2;0");
            int off = dh == 10012 ? 1 : 0;
            c.promise("promise 23, dh " + dh);
            c.due("melt", x.melt(1, dh, -1), 0);
            c.due("melt", x.melt(1, dh, 0), 2 * off);
            c.promise("promise 24, dh " + dh);
            c.due("pairs", x.pairs(dh), off == 1 ? 1 : CastWithVows.NOT);
        }
        c.promise("promise 22");
        int[] nhs = {9912, 9812, 9911, 9913};
        for (int nh : nhs) {
            CastWithVows x = bells(3);
            x.vow(1, 3);
            x.mend(0, 5, 99);
            Check.feed(x, "k?0;h=12?b<2;0");
            c.due("cast, nh " + nh, x.cast(0, nh, 0), nh == 9912 ? 2 : 0);
        }
    }

    private static void drawnByHand() {
        c.promise("promise 25");
        CastWithVows x = bells(1);
        x.vow(0, 1);
        Check.feed(x, "k?0;d=2");
        x.mend(0, 7, 5);
        for (int seed = -20; seed < 20; seed++) {
            int z = seed;
            int since = -1;
            int off = 0;
            for (int year = 0; year < 3; year++) {
                since = -1;
                for (int day = 40; day < 44; day++) {
                    z = z * 1103515245 + 12345;
                    if ((z >>> 8) % 12 < 5) {
                        since = since < 0 ? day : -1;
                    }
                }
                off += since == 41 ? 1 : 0;
            }
            c.due("broken just two days ahead of the end, seed " + seed, x.drawn(seed, 304, 40, 0), off);
        }
    }
}
