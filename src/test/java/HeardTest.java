/** Promises 18 to 21: a pitch read back, the bell to strike next, rows judged, since when. */
public final class HeardTest {
    private static final Check c = new Check();
    private static final int[] NO_DAYS = {-1, 24, 124, 99824, 99900, Integer.MAX_VALUE, Integer.MIN_VALUE};
    private static final int[] NO_HOURS = {-1, 2400, 9999, Integer.MAX_VALUE, Integer.MIN_VALUE};

    public static void main(String[] args) {
        heard();
        strike();
        judge();
        broke();
        daysAndHours();
        c.end();
    }

    /** Bell 0 (50) with vows 0 (1), 2 (2), 3 (3); bell 1 (60) with vow 1 (4); bell 2 (70) without. */
    private static CastWithVows town() {
        CastWithVows x = new CastWithVows();
        x.bell(50);
        x.bell(60);
        x.bell(70);
        x.vow(0, 1);
        x.vow(1, 4);
        x.vow(0, 2);
        x.vow(0, 3);
        return x;
    }

    private static void heard(CastWithVows x, int bell, int pitch, int hd, int... want) {
        for (int what = 0; what < 4; what++) {
            c.due("heard(" + bell + ", " + pitch + ", " + hd + ", " + what + ")", x.heard(bell, pitch, hd, what),
                want[what]);
        }
    }

    private static void heard() {
        c.promise("promise 18");
        CastWithVows x = town();
        heard(x, 0, 50, 0, 1, 0, 13, 0);
        heard(x, 0, 47, 0, 2, 0, 0, 5);
        heard(x, 0, 45, 0, 1, 12, 1, 12);
        heard(x, 0, 46, 0, 1, 9, 4, 9);
        heard(x, 0, 44, 0, 1, 13, 0, 13);
        heard(x, 0, 51, 0, 0, -2, -2, -2);
        heard(x, 0, Integer.MIN_VALUE, 0, 0, -2, -2, -2);
        heard(x, 1, 56, 2399, 1, 2, 0, 2);
        heard(x, 2, 70, 0, 1, 0, 0, 0);
        heard(x, 2, 71, 0, 0, -2, -2, -2);
        x.mend(0, 5, 0);
        heard(x, 0, 50, 0, 1, 0, 13, 0);
        Check.feed(x, "w=1?0;k?h;d");
        heard(x, 0, 52, 102, 2, 0, 12, 0);
        heard(x, 0, 54, 102, 2, 12, 0, 12);
        heard(x, 0, 53, 102, 4, 0, 0, 4);
        c.due("what 4", x.heard(0, 50, 0, 4), CastWithVows.BAD);
        c.due("what -1", x.heard(0, 50, 0, -1), CastWithVows.BAD);
        c.due("bell 3", x.heard(3, 50, 0, 0), CastWithVows.BAD);
        c.due("bell -1", x.heard(-1, 50, 0, 0), CastWithVows.BAD);
        for (int hd : NO_HOURS) {
            c.due("hd " + hd, x.heard(0, 50, hd, 0), CastWithVows.BAD);
        }
        CastWithVows y = new CastWithVows();
        y.bell(99);
        for (int i = 0; i < 12; i++) {
            y.vow(0, 9);
        }
        heard(y, 0, 45, 0, 924, 0, 0, 63);
        heard(y, 0, -9, 0, 1, 4095, 0, 4095);
    }

    private static void strike(CastWithVows x, int hd, int left, int bell, int most) {
        c.due("sets left", x.strike(0, hd, 0), left);
        c.due("bell to strike", x.strike(0, hd, 1), bell);
        c.due("unlike pitches", x.strike(0, hd, 2), most);
    }

    private static void strike() {
        c.promise("promise 19");
        CastWithVows x = town();
        x.row(0, 1, 0);
        strike(x, 0, 16, 0, 7);
        Check.lay(x, 0, 1, 47);
        strike(x, 0, 4, 1, 2);
        Check.lay(x, 0, 1, 47, 56, 70);
        strike(x, 0, 2, 0, 1);
        Check.lay(x, 0, 1, -1, 56);
        strike(x, 0, 8, 0, 7);
        Check.lay(x, 0, 1, 47, 57);
        strike(x, 0, 0, CastWithVows.NOT, CastWithVows.NOT);
        Check.lay(x, 0, 1, -1, -1, 71);
        strike(x, 0, 0, CastWithVows.NOT, CastWithVows.NOT);
        Check.lay(x, 0, 1, -1, -1, -1, 5, 5);
        strike(x, 0, 16, 0, 7);
        Check.feed(x, "k?0;b?d;0");
        strike(x, 1209, 16, 1, 2);
        strike(x, 1200, 16, 0, 1);
        CastWithVows z = new CastWithVows();
        z.bell(99);
        for (int i = 0; i < 12; i++) {
            z.vow(0, 9);
        }
        z.row(0, 1, 0);
        strike(z, 0, 4096, 0, 13);
        Check.feed(z, "!k*9");
        strike(z, 0, 4096, 0, 13);
        Check.feed(z, "k?-9;9");
        strike(z, 0, 4096, 0, 13);
        CastWithVows y = new CastWithVows();
        y.row(0, 1, 1);
        strike(y, 0, 1, CastWithVows.NOT, CastWithVows.NOT);
        c.due("nothing there", y.strike(1, 0, 0), -11);
        y.row(1, 2, 1);
        c.due("ints", y.strike(1, 0, 0), -12);
        y.body(0);
        y.keep(1, 0);
        c.due("a sound", y.strike(1, 0, 0), -12);
        c.due("what 3", y.strike(2, 0, 3), CastWithVows.BAD);
        c.due("what -1", y.strike(0, 0, -1), CastWithVows.BAD);
        c.due("shelf 6", y.strike(6, 0, 0), CastWithVows.BAD);
        c.due("shelf -1", y.strike(-1, 0, 0), CastWithVows.BAD);
        for (int hd : NO_HOURS) {
            c.due("hd " + hd, y.strike(2, hd, 0), CastWithVows.BAD);
        }
    }

    /** Vow 1 is off at hour 12 alone, and just 7 days ahead: each call must tell both apart. */
    private static void daysAndHours() {
        int[] hds = {1207, 1107, 1307, 1206, 1208};
        for (int hd : hds) {
            CastWithVows x = town();
            Check.feed(x, "k?0;d=7?h=12&b;0");
            int off = hd == 1207 ? 1 : 0;
            c.promise("promise 18, hd " + hd);
            c.due("heard", x.heard(1, 61, hd, 0), off);
            c.due("heard", x.heard(1, 60, hd, 0), 2 - off);
            c.promise("promise 19, hd " + hd);
            Check.lay(x, 0, 1, -1, 60);
            c.due("strike", x.strike(0, hd, 0), 16 - 8 * off);
            x.row(0, 1, 0);
            c.due("strike", x.strike(0, hd, 1), off);
            c.due("strike", x.strike(0, hd, 2), 1 + off);
        }
        int[] dhs = {10012, 9912, 10112, 10011, 10013};
        int[] since = {4101, 1000, 1102, CastWithVows.NOT, CastWithVows.NOT};
        for (int k = 0; k < dhs.length; k++) {
            int dh = dhs[k];
            CastWithVows x = town();
            x.mend(1, 5, 100);
            x.mend(1, 6, 101);
            Check.feed(x, "k?0;h=12?1;0");
            Check.lay(x, 0, 1, 61, 60);
            c.promise("promise 20, dh " + dh);
            c.due("judge", x.judge(0, 1, dh), dh == 10012 ? CastWithVows.NOT : 0);
            Check.lay(x, 0, 1, 60, 61);
            c.promise("promise 21, dh " + dh);
            boolean noon = dh % 100 == 12;
            c.due("broke", x.broke(0, 1, dh, 0), noon ? 1000 + dh / 100 + 1 : CastWithVows.NOT);
            c.due("broke", x.broke(0, 1, dh, 1), noon ? 1 : 0);
            Check.lay(x, 0, 1, 61, 61);
            x.vow(1, 1);
            x.mend(4, 5, 101);
            x.mend(4, 6, 102);
            c.due("the other vow's own days", x.broke(0, 1, dh, 0), since[k]);
        }
    }

    private static void judge() {
        c.promise("promise 20");
        CastWithVows x = town();
        x.mend(1, 5, 5);
        x.mend(1, 6, 7);
        Check.lay(x, 0, 1, 60, 56, 56, 60);
        c.due("all so", x.judge(0, 1, 400), CastWithVows.NOT);
        c.due("the second not", x.judge(0, 1, 300), 1);
        c.due("the first not", x.judge(0, 1, 500), 0);
        c.due("another bell", x.judge(0, 0, 400), 0);
        Check.lay(x, 0, 1, 60, 60, 60);
        c.due("to 998", x.judge(0, 1, 99623), CastWithVows.NOT);
        c.due("beyond 998", x.judge(0, 1, 99723), 2);
        x.row(0, 1, 0);
        c.due("an empty row", x.judge(0, 1, 400), CastWithVows.NOT);
        Check.feed(x, "h");
        Check.lay(x, 0, 1, 63);
        c.due("at an hour", x.judge(0, 1, 403), CastWithVows.NOT);
        c.due("at another", x.judge(0, 1, 402), 0);
        c.due("nothing there", x.judge(1, 1, 400), -11);
        x.row(1, 0, 1);
        c.due("bytes", x.judge(1, 1, 400), -12);
        x.body(0);
        x.keep(1, 0);
        c.due("a sound", x.judge(1, 1, 400), -12);
        c.due("bell 3", x.judge(2, 3, 0), CastWithVows.BAD);
        c.due("bell -1", x.judge(2, -1, 0), CastWithVows.BAD);
        c.due("shelf 6", x.judge(6, 0, 0), CastWithVows.BAD);
        for (int dh : NO_DAYS) {
            c.due("dh " + dh, x.judge(2, 0, dh), CastWithVows.BAD);
        }
    }

    private static void broke(CastWithVows x, int bell, int dh, int first, int n) {
        c.due("broke(0, " + bell + ", " + dh + ", 0)", x.broke(0, bell, dh, 0), first);
        c.due("broke(0, " + bell + ", " + dh + ", 1)", x.broke(0, bell, dh, 1), n);
    }

    private static void broke() {
        c.promise("promise 21");
        CastWithVows x = town();
        Check.lay(x, 0, 1, 50, 50, 48, 48);
        broke(x, 0, 1000, 2012, 1);
        Check.lay(x, 0, 1, 48, 48);
        broke(x, 0, 1000, 2000, 11);
        Check.lay(x, 0, 1, 50, 50);
        broke(x, 0, 1000, 12, 3 * 988);
        Check.lay(x, 0, 1, 48, 50);
        broke(x, 0, 1000, CastWithVows.NOT, 0);
        x.row(0, 1, 0);
        broke(x, 0, 1000, 0, 3000);
        broke(x, 2, 1000, CastWithVows.NOT, 0);
        Check.lay(x, 0, 1, 70);
        broke(x, 2, 1000, CastWithVows.NOT, 0);
        Check.lay(x, 0, 1, 60, 56);
        broke(x, 1, 99723, 1998, 1);
        broke(x, 1, 99823, CastWithVows.NOT, 0);
        x.mend(1, 5, 3);
        x.mend(1, 6, 4);
        Check.lay(x, 0, 1, 56, 56);
        broke(x, 1, 300, 1000, 4);
        c.due("it is not so now", x.judge(0, 1, 300), 1);
        c.due("and nothing changed", x.of(1, 6), 4);
        x.mend(0, 5, 11);
        x.mend(0, 6, 12);
        Check.lay(x, 0, 1, 50, 49, 48);
        broke(x, 0, 1000, 2012, 1);
        Check.feed(x, "k?0;d");
        x.mend(0, 5, 999);
        Check.lay(x, 0, 1, 50, 51, 52, 53);
        broke(x, 0, 1000, 10, 3);
        CastWithVows y = town();
        Check.feed(y, "k?0;d");
        Check.lay(y, 0, 1, 50, 51, 52);
        broke(y, 0, 0, 0, 3);
        Check.lay(x, 0, 1, 58, 59, 59, 59);
        broke(x, 0, 1000, 2, 3);
        Check.lay(x, 0, 1, 59, 59, 59, 59);
        broke(x, 0, 1000, 0, 6);
        c.due("nothing there", x.broke(1, 0, 0, 0), -11);
        x.row(1, 3, 1);
        c.due("longs", x.broke(1, 0, 0, 0), -12);
        x.body(0);
        x.keep(1, 0);
        c.due("a sound", x.broke(1, 0, 0, 0), -12);
        c.due("what 2", x.broke(2, 0, 0, 2), CastWithVows.BAD);
        c.due("what -1", x.broke(2, 0, 0, -1), CastWithVows.BAD);
        c.due("bell 3", x.broke(2, 3, 0, 0), CastWithVows.BAD);
        c.due("shelf -1", x.broke(-1, 0, 0, 0), CastWithVows.BAD);
        for (int dh : NO_DAYS) {
            c.due("dh " + dh, x.broke(2, 0, dh, 0), CastWithVows.BAD);
        }
    }
}
