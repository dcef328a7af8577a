/** The edges of what is read back from sounds, sentence by sentence: Terms 3, promises 18 to 21. */
public final class EdgesHeardTest {
    private static final int BAD = CastWithVows.BAD, NOT = CastWithVows.NOT;
    private static final Check c = new Check();

    public static void main(String[] args) {
        heardNone();
        heardWithoutVows();
        heardAll();
        heardInAll();
        heardHoursAndDays();
        heardBad();
        strikeNoBells();
        strikeToldOrNot();
        strikeNoneLeft();
        strikeWhich();
        strikeHoursAndDays();
        strikeBad();
        judged();
        judgedTo998();
        judgeBad();
        brokeDays();
        brokeFirst();
        brokeTo998();
        brokeNot();
        brokeBad();
        c.end();
    }

    private static void heard(CastWithVows x, int bell, int pitch, int hd, int many, int broken, int kept, int least) {
        String call = "heard(" + bell + ", " + pitch + ", " + hd + ", ";
        c.due(call + "0)", x.heard(bell, pitch, hd, 0), many);
        c.due(call + "1)", x.heard(bell, pitch, hd, 1), broken);
        c.due(call + "2)", x.heard(bell, pitch, hd, 2), kept);
        c.due(call + "3)", x.heard(bell, pitch, hd, 3), least);
    }

    /** Bell 0 (50) with vows 0 (1), 2 (2), 3 (3); bell 1 (60) with vow 1 (4); bell 2 (70) without. */
    private static CastWithVows town() {
        CastWithVows x = Check.bells(50, 60, 70);
        x.vow(0, 1);
        x.vow(1, 4);
        x.vow(0, 2);
        x.vow(0, 3);
        return x;
    }

    // ---- heard

    private static void heardNone() {
        c.promise("HEARD: how many make that PITCH: 0; NOT: none does");
        CastWithVows x = town();
        for (int pitch : new int[] {51, 43, -1, 0, 99, 306, Integer.MIN_VALUE, Integer.MIN_VALUE + 50, Integer.MAX_VALUE}) {
            heard(x, 0, pitch, 0, 0, NOT, NOT, NOT);
        }
        heard(x, 1, 57, 0, 0, NOT, NOT, NOT);
        heard(x, 1, 61, 0, 0, NOT, NOT, NOT);
        heard(x, 1, 55, 0, 0, NOT, NOT, NOT);
    }

    private static void heardWithoutVows() {
        c.promise("HEARD, no VOWS in the BELL: the empty set alone");
        CastWithVows x = town();
        heard(x, 2, 70, 0, 1, 0, 0, 0);
        heard(x, 2, 69, 0, 0, NOT, NOT, NOT);
        heard(x, 2, 71, 2399, 0, NOT, NOT, NOT);
        CastWithVows y = Check.bells(0);
        heard(y, 0, 0, 2399, 1, 0, 0, 0);
        heard(y, 0, -1, 0, 0, NOT, NOT, NOT);
    }

    private static void heardAll() {
        c.promise("HEARD: of all sets of its VOWS, twelve at most");
        CastWithVows x = Check.bells(99, 0);
        for (int v = 0; v < 12; v++) {
            x.vow(1, 9);
        }
        heard(x, 1, 0, 0, 1, 0, 4095, 0);
        heard(x, 1, -9, 0, 12, 0, 0, 1);
        heard(x, 1, -54, 0, 924, 0, 0, 63);
        heard(x, 1, -99, 0, 12, 0, 0, 2047);
        heard(x, 1, -108, 0, 1, 4095, 0, 4095);
        heard(x, 1, -109, 0, 0, NOT, NOT, NOT);
        heard(x, 0, 99, 0, 1, 0, 0, 0);
        Check.feed(x, "0");
        heard(x, 1, 0, 2399, 4096, 0, 0, 0);
        Check.feed(x, "k?9;-9");
        heard(x, 1, 108, 0, 1, 0, 4095, 0);
        heard(x, 1, -108, 0, 1, 4095, 0, 4095);
        heard(x, 1, 0, 0, 924, 0, 0, 63);
    }

    private static void heardInAll() {
        c.promise("which are broken in all of them, KEPT in all (bits of VOWS); the least set");
        CastWithVows x = town();
        heard(x, 0, 50, 0, 1, 0, 13, 0);
        heard(x, 0, 49, 0, 1, 1, 12, 1);
        heard(x, 0, 47, 0, 2, 0, 0, 5);
        heard(x, 0, 44, 0, 1, 13, 0, 13);
        heard(x, 1, 56, 0, 1, 2, 0, 2);
        heard(x, 1, 60, 0, 1, 0, 2, 0);
        x.vow(0, 9);
        heard(x, 0, 47, 0, 2, 0, 16, 5);
        heard(x, 0, 38, 0, 2, 16, 0, 21);
        c.promise("each either KEPT, or broken d days ahead, whatever they are");
        x.mend(0, 5, 0);
        x.mend(4, 5, 3);
        x.mend(4, 6, 9);
        heard(x, 0, 47, 0, 2, 0, 16, 5);
        heard(x, 0, 38, 99, 2, 16, 0, 21);
        c.promise("VOWS cast into another BELL are heard there");
        x.mend(0, 2, 1);
        heard(x, 1, 55, 0, 1, 3, 0, 3);
        heard(x, 0, 49, 0, 0, NOT, NOT, NOT);
    }

    private static void heardHoursAndDays() {
        c.promise("HEARD: d (0 .. 99), the hour (0 .. 23), as hd tells");
        int[][] edges = {{0, 0}, {0, 99}, {23, 0}, {23, 99}, {12, 7}, {1, 1}, {9, 10}};
        for (int[] e : edges) {
            CastWithVows x = town();
            Check.feed(x, "k?0;h=" + e[0] + "&d=" + e[1] + "?5;-5");
            heard(x, 1, 65, 100 * e[0] + e[1], 1, 2, 0, 2);
            heard(x, 1, 55, 100 * e[0] + e[1], 0, NOT, NOT, NOT);
            heard(x, 1, 60, 100 * e[0] + e[1], 1, 0, 2, 0);
            heard(x, 1, 55, 100 * ((e[0] + 1) % 24) + e[1], 1, 2, 0, 2);
            heard(x, 1, 55, 100 * e[0] + (e[1] + 1) % 100, 1, 2, 0, 2);
        }
        CastWithVows x = town();
        Check.feed(x, "k?h-16;d/11");
        heard(x, 1, 67, 2399, 1, 0, 2, 0);
        heard(x, 1, 69, 2399, 1, 2, 0, 2);
        heard(x, 1, 68, 2398, 1, 2, 0, 2);
        heard(x, 1, 60, 2300, 1, 2, 0, 2);
        heard(x, 1, 51, 99, 1, 0, 2, 0);
        heard(x, 1, 60, 99, 0, NOT, NOT, NOT);
        heard(x, 1, 69, 99, 1, 2, 0, 2);
    }

    private static void heardBad() {
        c.promise("heard: BAD");
        CastWithVows x = town();
        for (int bell : new int[] {-1, 3, 6, Integer.MIN_VALUE, Integer.MAX_VALUE}) {
            c.due("bell " + bell, x.heard(bell, 50, 0, 0), BAD);
        }
        for (int what : new int[] {-1, 4, Integer.MIN_VALUE, Integer.MAX_VALUE}) {
            c.due("what " + what, x.heard(0, 50, 0, what), BAD);
        }
        for (int hd : Check.NO_HOUR_DAYS) {
            for (int what = 0; what <= 3; what++) {
                c.due("hd " + hd + ", what " + what, x.heard(0, 50, hd, what), BAD);
                c.due("BAD ahead of NOT", x.heard(0, 51, hd, what), BAD);
            }
        }
    }

    // ---- strike

    private static void strike(CastWithVows x, int hd, int left, int bell, int most) {
        c.due("sets left", x.strike(0, hd, 0), left);
        c.due("the BELL", x.strike(0, hd, 1), bell);
        c.due("that number", x.strike(0, hd, 2), most);
    }

    private static void strikeNoBells() {
        c.promise("strike: NOT: no BELLS; one set is left, the empty one");
        CastWithVows x = new CastWithVows();
        x.row(0, 1, 0);
        strike(x, 0, 1, NOT, NOT);
        Check.lay(x, 0, 1, -1);
        strike(x, 2399, 1, NOT, NOT);
        c.promise("no VOWS: one set, one PITCH");
        CastWithVows y = Check.bells(40, 50);
        y.row(0, 1, 0);
        strike(y, 0, 1, 0, 1);
        Check.lay(y, 0, 1, 40);
        strike(y, 0, 1, 0, 1);
        Check.lay(y, 0, 1, 40, 50);
        strike(y, 0, 1, 0, 1);
        Check.lay(y, 0, 1, 40, 51);
        strike(y, 0, 0, NOT, NOT);
    }

    private static void strikeToldOrNot() {
        c.promise("BELL by BELL from 0 on; -1: not struck; those that lack, too");
        CastWithVows x = town();
        x.row(0, 1, 0);
        strike(x, 0, 16, 0, 7);
        Check.lay(x, 0, 1, -1);
        strike(x, 0, 16, 0, 7);
        Check.lay(x, 0, 1, -1, -1, -1);
        strike(x, 0, 16, 0, 7);
        Check.lay(x, 0, 1, 47);
        strike(x, 0, 4, 1, 2);
        Check.lay(x, 0, 1, 47, -1);
        strike(x, 0, 4, 1, 2);
        Check.lay(x, 0, 1, 47, 60);
        strike(x, 0, 2, 0, 1);
        Check.lay(x, 0, 1, 50, 56, 70);
        strike(x, 0, 1, 0, 1);
        Check.lay(x, 0, 1, -1, 56);
        strike(x, 0, 8, 0, 7);
        Check.lay(x, 0, 1, -1, -1, 70);
        strike(x, 0, 16, 0, 7);
        c.promise("-1 is not struck, though it is a PITCH that the BELL may have");
        CastWithVows y = Check.bells(0);
        y.vow(0, 1);
        Check.lay(y, 0, 1, -1);
        strike(y, 0, 2, 0, 2);
        c.due("it may have it", y.heard(0, -1, 0, 0), 1);
        Check.lay(y, 0, 1, 0);
        strike(y, 0, 1, 0, 1);
        y.mend(0, 3, 2);
        Check.lay(y, 0, 1, -2);
        strike(y, 0, 1, 0, 1);
        c.promise("a ROW of shorts keeps the lowest bits");
        Check.lay(y, 0, 1, 65535);
        strike(y, 0, 2, 0, 2);
        Check.lay(y, 0, 1, 65534);
        strike(y, 0, 1, 0, 1);
        Check.lay(y, 0, 1, 32767);
        strike(y, 0, 0, NOT, NOT);
        c.promise("a ROW longer than there are BELLS: only BELLS are told of");
        CastWithVows z = town();
        z.row(0, 1, 60);
        for (int i = 0; i < 60; i++) {
            z.put(0, i, i < 3 ? -1 : 7);
        }
        strike(z, 0, 16, 0, 7);
    }

    private static void strikeNoneLeft() {
        c.promise("strike: NOT: no set is left; how many: 0");
        CastWithVows x = town();
        Check.lay(x, 0, 1, 51);
        strike(x, 0, 0, NOT, NOT);
        Check.lay(x, 0, 1, 50, 57);
        strike(x, 0, 0, NOT, NOT);
        Check.lay(x, 0, 1, 50, 56, 69);
        strike(x, 0, 0, NOT, NOT);
        Check.lay(x, 0, 1, -1, -1, 0);
        strike(x, 0, 0, NOT, NOT);
        Check.lay(x, 0, 1, -32768);
        strike(x, 0, 0, NOT, NOT);
        c.promise("STRIKE changes nothing");
        c.due("vows", x.town(0, 2), 0);
        c.due("the row", x.element(0, 0), -32768);
    }

    private static void strikeWhich() {
        c.promise("by which BELL most unlike PITCHES may be heard (of like ones the least); that number");
        CastWithVows x = Check.bells(50, 50, 50);
        x.vow(2, 1);
        x.row(0, 1, 0);
        strike(x, 0, 2, 2, 2);
        x.vow(1, 1);
        strike(x, 0, 4, 1, 2);
        x.vow(2, 1);
        strike(x, 0, 8, 2, 3);
        x.vow(0, 2);
        x.vow(0, 4);
        strike(x, 0, 32, 0, 4);
        x.mend(4, 3, 2);
        strike(x, 0, 32, 0, 3);
        Check.feed(x, "k?0;b=1?9;w=2?-9;0");
        strike(x, 0, 32, 0, 3);
        Check.feed(x, "k?0;b=1?9;0");
        strike(x, 0, 32, 1, 2);
        Check.feed(x, "0");
        strike(x, 0, 32, 0, 1);
        c.promise("all sets: twelve VOWS");
        CastWithVows y = Check.bells(0, 99);
        for (int v = 0; v < 12; v++) {
            y.vow(1, 9);
        }
        y.row(0, 1, 0);
        strike(y, 0, 4096, 1, 13);
        Check.lay(y, 0, 1, -1, 45);
        strike(y, 0, 924, 0, 1);
        Check.feed(y, "k?-9;9");
        Check.lay(y, 0, 1, 0);
        strike(y, 0, 4096, 1, 13);
        Check.feed(y, "w*k");
        for (int v = 0; v < 12; v++) {
            y.mend(v, 3, v % 9 + 1);
        }
        strike(y, 0, 4096, 1, 52);
    }

    private static void strikeHoursAndDays() {
        c.promise("STRIKE NEXT: just d days ahead (0 .. 99), the hour (0 .. 23), as hd tells");
        int[][] edges = {{0, 0}, {0, 99}, {23, 0}, {23, 99}, {12, 7}, {9, 10}};
        for (int[] e : edges) {
            CastWithVows x = town();
            Check.feed(x, "k?0;h=" + e[0] + "&d=" + e[1] + "?b;0");
            x.row(0, 1, 0);
            strike(x, 100 * e[0] + e[1], 16, 1, 2);
            strike(x, 100 * ((e[0] + 1) % 24) + e[1], 16, 0, 1);
            strike(x, 100 * e[0] + (e[1] + 1) % 100, 16, 0, 1);
            Check.lay(x, 0, 1, -1, 61);
            strike(x, 100 * e[0] + e[1], 8, 0, 1);
            strike(x, 100 * ((e[0] + 23) % 24) + e[1], 0, NOT, NOT);
        }
        CastWithVows x = town();
        Check.feed(x, "k?h-16;b=1?d/11;h-16");
        x.row(0, 1, 0);
        strike(x, 2399, 16, 1, 2);
        strike(x, 2377, 16, 0, 1);
    }

    private static void strikeBad() {
        c.promise("strike: BAD, -11, -12 (no ROW of shorts)");
        CastWithVows x = town();
        x.body(0);
        x.keep(1, 0);
        for (int what : new int[] {-1, 3, Integer.MIN_VALUE, Integer.MAX_VALUE}) {
            c.due("BAD ahead of -11, what " + what, x.strike(0, 0, what), BAD);
            c.due("BAD ahead of -12, what " + what, x.strike(1, 0, what), BAD);
        }
        for (int shelf : new int[] {-1, 6, Integer.MIN_VALUE, Integer.MAX_VALUE}) {
            c.due("shelf " + shelf, x.strike(shelf, 0, 0), BAD);
        }
        for (int hd : Check.NO_HOUR_DAYS) {
            c.due("BAD ahead of -11, hd " + hd, x.strike(0, hd, 0), BAD);
            c.due("BAD ahead of -12, hd " + hd, x.strike(1, hd, 1), BAD);
        }
        for (int what = 0; what <= 2; what++) {
            c.due("nothing", x.strike(0, 0, what), -11);
            c.due("nothing", x.strike(5, 2399, what), -11);
            c.due("a SOUND", x.strike(1, 0, what), -12);
            for (int sort : new int[] {0, 2, 3, 4}) {
                x.row(2, sort, sort);
                c.due("a row of sort " + sort, x.strike(2, 0, what), -12);
            }
        }
        x.row(5, 1, 0);
        c.due("an empty row of shorts is one", x.strike(5, 0, 0), 16);
        CastWithVows none = new CastWithVows();
        c.due("-11 ahead of NOT", none.strike(0, 0, 1), -11);
    }

    // ---- judge

    private static void judged() {
        c.promise("JUDGED: the first day of the ROW that is not so (0 on); NOT");
        CastWithVows x = town();
        x.mend(1, 5, 5);
        x.mend(1, 6, 7);
        Check.lay(x, 3, 1, 60, 56, 56, 60);
        c.due("all so", x.judge(3, 1, 400), NOT);
        c.due("not the first", x.judge(3, 1, 500), 0);
        c.due("not the second", x.judge(3, 1, 300), 1);
        x.put(3, 3, 61);
        c.due("not the last", x.judge(3, 1, 400), 3);
        x.put(3, 2, 57);
        c.due("not the last two: the first", x.judge(3, 1, 400), 2);
        c.promise("an empty ROW is so");
        x.row(3, 1, 0);
        c.due("at first", x.judge(3, 1, 0), NOT);
        c.due("at the end", x.judge(3, 1, 99823), NOT);
        c.promise("a ROW of shorts keeps the lowest bits");
        Check.lay(x, 3, 1, 65536 + 60, -65536 + 60);
        c.due("60, 60", x.judge(3, 1, 0), NOT);
        c.promise("-1 is a PITCH here");
        Check.lay(x, 3, 1, -1);
        c.due("it is not so", x.judge(3, 1, 0), 0);
        CastWithVows y = Check.bells(0);
        y.vow(0, 1);
        y.breaks(0);
        Check.lay(y, 3, 1, -1, -1);
        c.due("it is so", y.judge(3, 0, 0), NOT);
        c.promise("0 at first is a PITCH, too");
        y.row(3, 1, 2);
        c.due("it is not so", y.judge(3, 0, 0), 0);
        y.mend(0, 5, 1);
        c.due("it is so on the first day", y.judge(3, 0, 0), 1);
    }

    private static void sixty(CastWithVows x, int shelf, int pitch) {
        x.row(shelf, 1, 60);
        for (int i = 0; i < 60; i++) {
            x.put(shelf, i, pitch);
        }
    }

    private static void judgedTo998() {
        c.promise("days beyond 998 are not so");
        CastWithVows x = town();
        sixty(x, 0, 60);
        c.due("60 days to 998", x.judge(0, 1, 93923), NOT);
        c.due("60 days to 999", x.judge(0, 1, 94000), 59);
        c.due("60 days from 998 on", x.judge(0, 1, 99800), 1);
        c.due("60 days from 0 on", x.judge(0, 1, 0), NOT);
        x.mend(1, 5, 998);
        c.due("998 is not so", x.judge(0, 1, 93900), 59);
        c.due("998 is not so", x.judge(0, 1, 99800), 0);
        x.put(0, 0, 56);
        c.due("998 is so", x.judge(0, 1, 99800), 1);
    }

    private static void judgeBad() {
        c.promise("judge: BAD, -11, -12; NOT");
        CastWithVows x = town();
        x.body(0);
        x.keep(1, 0);
        for (int bell : new int[] {-1, 3, 6, Integer.MIN_VALUE, Integer.MAX_VALUE}) {
            c.due("BAD ahead of -11, bell " + bell, x.judge(0, bell, 0), BAD);
            c.due("BAD ahead of -12, bell " + bell, x.judge(1, bell, 0), BAD);
        }
        for (int shelf : new int[] {-1, 6, Integer.MIN_VALUE, Integer.MAX_VALUE}) {
            c.due("shelf " + shelf, x.judge(shelf, 0, 0), BAD);
        }
        for (int dh : Check.NO_DAY_HOURS) {
            c.due("BAD ahead of -11, dh " + dh, x.judge(0, 0, dh), BAD);
            c.due("BAD ahead of -12, dh " + dh, x.judge(1, 0, dh), BAD);
        }
        c.due("nothing", x.judge(0, 0, 0), -11);
        c.due("a SOUND", x.judge(1, 0, 0), -12);
        for (int sort : new int[] {0, 2, 3, 4}) {
            x.row(2, sort, sort);
            c.due("a row of sort " + sort, x.judge(2, 0, 0), -12);
        }
        c.due("no bells: BAD ahead of -11", new CastWithVows().judge(0, 0, 0), BAD);
    }

    // ---- broke

    private static void broke(CastWithVows x, int bell, int dh, int first, int many) {
        c.due("broke(0, " + bell + ", " + dh + ", 0)", x.broke(0, bell, dh, 0), first);
        c.due("broke(0, " + bell + ", " + dh + ", 1)", x.broke(0, bell, dh, 1), many);
    }

    private static void brokeDays() {
        c.promise("BROKE: the day one from 0 to 999");
        CastWithVows x = Check.bells(50);
        x.vow(0, 4);
        x.row(0, 1, 0);
        broke(x, 0, 0, 0, 1000);
        broke(x, 0, 99823, 0, 1000);
        Check.lay(x, 0, 1, 50);
        broke(x, 0, 0, 1, 999);
        broke(x, 0, 99800, 999, 1);
        broke(x, 0, 99700, 998, 2);
        Check.lay(x, 0, 1, 46);
        broke(x, 0, 0, 0, 1);
        broke(x, 0, 99800, 0, 999);
        Check.lay(x, 0, 1, 50, 46);
        broke(x, 0, 0, 1, 1);
        broke(x, 0, 99700, 998, 1);
        Check.lay(x, 0, 1, 46, 50);
        broke(x, 0, 0, NOT, 0);
        sixty(x, 0, 50);
        broke(x, 0, 0, 60, 940);
        broke(x, 0, 93900, 999, 1);
        x.put(0, 59, 46);
        broke(x, 0, 93900, 998, 1);
        sixty(x, 0, 46);
        broke(x, 0, 0, 0, 1);
        broke(x, 0, 93900, 0, 940);
    }

    private static void brokeFirst() {
        c.promise("BROKE: the first by VOWS, then days: 1000 times the VOW and the day");
        CastWithVows x = Check.bells(50, 60);
        for (int v = 0; v < 12; v++) {
            x.vow(0, v < 10 ? 1 : 2);
        }
        Check.lay(x, 0, 1, 50, 49);
        broke(x, 0, 0, 1, 10);
        Check.lay(x, 0, 1, 48);
        broke(x, 0, 500, 10000, 2 * 6);
        x.mend(11, 5, 0);
        broke(x, 0, 500, 6, 10 * 994 + 994 + 6);
        Check.lay(x, 0, 1, 50);
        broke(x, 0, 99800, 11999, 1);
        broke(x, 0, 0, 11001, 999);
        Check.lay(x, 0, 1, 47);
        broke(x, 0, 0, 0, 10);
        Check.lay(x, 0, 1, 46);
        broke(x, 0, 0, 10000, 1);
        c.promise("one of its VOWS: those of other BELLS are none");
        Check.lay(x, 0, 1, 60);
        broke(x, 1, 0, NOT, 0);
        x.mend(3, 2, 1);
        broke(x, 1, 0, 3001, 999);
        c.promise("if but one had another BROKEN (AGAIN 999), the others as they are");
        CastWithVows y = town();
        y.mend(0, 5, 3);
        y.mend(0, 6, 5);
        y.mend(2, 5, 4);
        y.mend(2, 6, 6);
        Check.lay(y, 0, 1, 50, 49, 47, 48, 50);
        broke(y, 0, 200, 3007, 993);
        c.due("it is so as they are", y.judge(0, 0, 200), NOT);
        y.mend(3, 2, 2);
        broke(y, 0, 200, NOT, 0);
        y.mend(3, 2, 0);
        Check.lay(y, 0, 1, 50, 49, 47, 48, 48);
        broke(y, 0, 200, 2004, 1);
        Check.lay(y, 0, 1, 50, 49, 47, 47, 49);
        broke(y, 0, 200, 3, 1);
        c.promise("BROKE changes nothing");
        int[] want = {3, 5, 999, 999, 4, 6, 999, 999};
        for (int v = 0; v < 4; v++) {
            c.due("BROKEN of " + v, y.of(v, 5), want[2 * v]);
            c.due("AGAIN of " + v, y.of(v, 6), want[2 * v + 1]);
        }
        c.due("no change came", y.count(3), 6);
    }

    private static void brokeTo998() {
        c.promise("BROKE: days beyond 998 are not so");
        CastWithVows x = town();
        sixty(x, 0, 60);
        broke(x, 1, 93900, 1999, 1);
        broke(x, 1, 94000, NOT, 0);
        broke(x, 1, 99800, NOT, 0);
        Check.lay(x, 0, 1, 60);
        broke(x, 1, 99800, 1999, 1);
        Check.lay(x, 0, 1, 60, 60);
        broke(x, 1, 99800, NOT, 0);
        x.row(0, 1, 0);
        broke(x, 1, 99800, 1000, 1000);
    }

    private static void brokeNot() {
        c.promise("BROKE: NOT; how many: 0");
        CastWithVows x = town();
        Check.lay(x, 0, 1, 70);
        broke(x, 2, 0, NOT, 0);
        x.row(0, 1, 0);
        broke(x, 2, 0, NOT, 0);
        Check.lay(x, 0, 1, 45);
        broke(x, 0, 0, NOT, 0);
        broke(x, 1, 0, NOT, 0);
        Check.lay(x, 0, 1, -1);
        broke(x, 0, 0, NOT, 0);
        c.promise("a law by d tells the days apart");
        Check.feed(x, "k?0;d=0?9;d=998?8;d=997?7;0");
        Check.lay(x, 0, 1, 68);
        broke(x, 1, 99800, 1000, 1);
        Check.lay(x, 0, 1, 69);
        broke(x, 1, 99800, 1998, 1);
        Check.lay(x, 0, 1, 67, 68);
        broke(x, 1, 99700, 1000, 1);
        Check.lay(x, 0, 1, 60);
        broke(x, 1, 99800, 1002, 996 + 1);
        Check.feed(x, "h=23?1;0");
        Check.lay(x, 0, 1, 61);
        broke(x, 1, 23, 1000, 1000);
        broke(x, 1, 22, NOT, 0);
    }

    private static void brokeBad() {
        c.promise("broke: BAD, -11, -12");
        CastWithVows x = town();
        x.body(0);
        x.keep(1, 0);
        for (int bell : new int[] {-1, 3, 6, Integer.MIN_VALUE, Integer.MAX_VALUE}) {
            c.due("BAD ahead of -11, bell " + bell, x.broke(0, bell, 0, 0), BAD);
            c.due("BAD ahead of -12, bell " + bell, x.broke(1, bell, 0, 1), BAD);
        }
        for (int shelf : new int[] {-1, 6, Integer.MIN_VALUE, Integer.MAX_VALUE}) {
            c.due("shelf " + shelf, x.broke(shelf, 0, 0, 0), BAD);
        }
        for (int what : new int[] {-1, 2, Integer.MIN_VALUE, Integer.MAX_VALUE}) {
            c.due("BAD ahead of -11, what " + what, x.broke(0, 0, 0, what), BAD);
            c.due("BAD ahead of -12, what " + what, x.broke(1, 0, 0, what), BAD);
        }
        for (int dh : Check.NO_DAY_HOURS) {
            c.due("BAD ahead of -11, dh " + dh, x.broke(0, 0, dh, 0), BAD);
            c.due("BAD ahead of -12, dh " + dh, x.broke(1, 0, dh, 1), BAD);
        }
        for (int what = 0; what <= 1; what++) {
            c.due("nothing", x.broke(0, 0, 0, what), -11);
            c.due("a SOUND", x.broke(1, 0, 0, what), -12);
            c.due("-12 ahead of NOT", x.broke(1, 2, 0, what), -12);
            for (int sort : new int[] {0, 2, 3, 4}) {
                x.row(2, sort, sort);
                c.due("a row of sort " + sort, x.broke(2, 0, 0, what), -12);
            }
        }
        c.due("no bells: BAD ahead of -11", new CastWithVows().broke(0, 0, 0, 0), BAD);
    }
}
