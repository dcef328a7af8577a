/** Promises 7 to 9: the tape, the law, what a vow puts its bell off. */
public final class LawTest {
    private static final Check c = new Check();

    public static void main(String[] args) {
        tape();
        faults();
        values();
        wraps();
        lines();
        names();
        putsOff();
        c.end();
    }

    private static void tape() {
        c.promise("promise 7");
        CastWithVows x = new CastWithVows();
        c.due("feed(-1)", x.feed(-1), CastWithVows.BAD);
        c.due("feed(256)", x.feed(256), CastWithVows.BAD);
        c.due("feed(0)", x.feed(0), 1);
        c.due("feed(255)", x.feed(255), 2);
        for (int i = 3; i <= 120; i++) {
            c.due("feed", x.feed('1'), i);
        }
        c.due("a 121st", x.feed('1'), CastWithVows.FULL);
        c.due("BAD ahead of FULL", x.feed(256), CastWithVows.BAD);
        c.due("count", x.count(2), 120);
    }

    private static void fault(String text, int place) {
        CastWithVows x = new CastWithVows();
        x.bell(0);
        x.vow(0, 5);
        Check.feed(x, "w-1");
        c.due("law of " + text, Check.feed(x, text), place < 0 ? 1 : -100 - place);
        c.due("the tape behind " + text, x.count(2), 0);
        if (place >= 0) {
            c.due("the law behind " + text, x.puts(0, 0), 4);
        }
    }

    private static void faults() {
        c.promise("promise 8");
        fault("", 0);
        fault(";", 0);
        fault("1", -1);
        fault("1;", 2);
        fault("1;;1", 2);
        fault("1?", 2);
        fault("1?2", -1);
        fault("1?2?3", 3);
        fault("((((((1))))))?((((((1))))))", -1);
        fault("1?(((((((1)))))))", 8);
        fault("1;((((((1))))))", -1);
        fault("1?2;3?4;5", -1);
        fault("(1?2)", 2);
        fault("(1;2)", 2);
        fault("1234", -1);
        fault("12345", 4);
        fault("0000", -1);
        fault("x", 0);
        fault("w k", 1);
        fault("wk", 1);
        fault("1w", 1);
        fault("w1", 1);
        fault("w(", 1);
        fault("1+", 2);
        fault("1+*2", 2);
        for (String end : "1| 1& 1< 1= 1> 1- 1* 1/ 1% ! - ( 1|! 1&- 1<( !( -(".split(" ")) {
            fault(end, end.length());
            fault(end + ";1", end.length());
            fault(end + ")", end.length());
        }
        fault("1+-2", -1);
        fault("1--2", -1);
        fault("1!2", 1);
        fault("1!=2", 1);
        fault("1<2", -1);
        fault("1<2<3", 3);
        fault("1<2=3", 3);
        fault("(1<2)<3", -1);
        fault("1<2&3>4|5=6", -1);
        fault("1<=2", 2);
        fault("()", 1);
        fault("(1", 2);
        fault("(1))", 3);
        fault("((((((1))))))", -1);
        fault("(((((((1)))))))", 6);
        fault("!-!-!-1", -1);
        fault("!-!-!-!1", 6);
        fault("(-(!(-1))+2)", -1);
        fault("(-(!(-!1))+2)", 6);
        fault("------1+------2", -1);
        fault("(((((1-1)))))", -1);
        fault("((((((1-1))))))", -1);
        fault("((((((1--1))))))", 8);
        fault("((((((!1", 6);
        fault("" + (char) 255, 0);
        fault("1" + (char) 0, 1);
        StringBuilder all = new StringBuilder("1");
        while (all.length() < 119) {
            all.append("+1");
        }
        fault(all.toString(), -1);
        fault(all + "+", 120);
        fault(all + "(", 119);
    }

    private static CastWithVows one(String text) {
        CastWithVows x = new CastWithVows();
        x.bell(0);
        x.bell(0);
        x.bell(0);
        x.vow(2, 7);
        x.mend(0, 4, 3);
        x.mend(0, 5, 10);
        c.due("law of " + text, Check.feed(x, text), 1);
        return x;
    }

    private static void value(String text, int want) {
        c.due(text, one(text).puts(0, 1504), want);
    }

    private static void values() {
        c.promise("promise 8");
        value("1|2", 1);
        value("0|0", 0);
        value("7&3", 1);
        value("7&0", 0);
        value("7", 7);
        value("(7)", 7);
        value("!7", 0);
        value("!0", 1);
        value("!!7", 1);
        value("-7", -7);
        value("--7", 7);
        value("-!0", -1);
        value("2<3", 1);
        value("3<3", 0);
        value("3=3", 1);
        value("3>3", 0);
        value("4>3", 1);
        value("2+3*2", 8);
        value("(2+3)*2-3", 7);
        value("9-3-2", 4);
        value("8/2/2", 2);
        value("8/(2/2)", 8);
        value("7%4*2", 6);
        value("-7/2", -3);
        value("-7%4", -3);
        value("7/-2", -3);
        value("7%-4", 3);
        value("5/0", 0);
        value("5%0", 0);
        value("1|0&0", 1);
        value("0&0|1", 1);
        value("1+1=2&3>2", 1);
        value("1-2<0", 1);
        value("-2+3", 1);
        value("!0+1", 2);
        value("!(0+1)", 0);
        value("-2*3", -6);
        value("0007", 7);
        value("9", 9);
        value("10", 9);
        value("-10", -9);
        value("9999", 9);
        value("-9999", -9);
    }

    private static void wraps() {
        c.promise("promise 8");
        String two31 = "2048*1024*1024";
        value(two31 + "<0", 1);
        value(two31 + "-1>0", 1);
        value("-(" + two31 + ")=" + two31, 1);
        value(two31 + "/-1=" + two31, 1);
        value(two31 + "%-1", 0);
        value(two31 + "*2", 0);
    }

    private static void lines() {
        c.promise("promise 8");
        value("0?1;0?2", 0);
        value("0?1;5?2;3", 2);
        value("0?1;3;4", 3);
        value("-1?4;5", 4);
        value("1?0;5", 0);
        value("0;5", 0);
        value("1<2?3<4", 1);
        CastWithVows x = one("1");
        c.due("a later law takes its place", Check.feed(x, "k?0;2"), 1);
        c.due("kept", x.puts(0, 904), 0);
        c.due("broken", x.puts(0, 1004), 2);
        c.due("and a later one its own", Check.feed(x, "h?3;4"), 1);
        c.due("at an hour", x.puts(0, 1), 3);
        c.due("at none", x.puts(0, 0), 4);
    }

    private static void names() {
        c.promise("promise 8");
        value("w", 7);
        value("k", 0);
        value("d", 5);
        value("h", 4);
        value("b", 2);
        value("p", 3);
        CastWithVows x = one("d");
        c.due("d while it is kept", x.puts(0, 900), 0);
        c.due("d on the day", x.puts(0, 1000), 0);
        x.mend(0, 6, 14);
        c.due("d, the last day", x.puts(0, 1300), 3);
        c.due("d, kept again", x.puts(0, 1400), 0);
        c.due("k, kept again", one("k").puts(0, 923), 1);
        c.due("h of 23, less 20", one("h-20").puts(0, 23), 3);
    }

    private static void putsOff() {
        c.promise("promise 9");
        CastWithVows x = new CastWithVows();
        x.bell(50);
        c.due("no vow", x.puts(0, 0), CastWithVows.VOID);
        x.vow(0, 9);
        c.due("vow -1", x.puts(-1, 0), CastWithVows.VOID);
        c.due("vow 1", x.puts(1, 0), CastWithVows.VOID);
        c.due("dh -1", x.puts(0, -1), CastWithVows.VOID);
        c.due("hour 24", x.puts(0, 24), CastWithVows.VOID);
        c.due("hour 99", x.puts(0, 99), CastWithVows.VOID);
        c.due("day 999", x.puts(0, 99900), CastWithVows.VOID);
        c.due("the last hour", x.puts(0, 99823), 0);
        x.mend(0, 5, 998);
        c.due("broken on the last day", x.puts(0, 99823), -9);
        c.due("not the day ahead", x.puts(0, 99723), 0);
        x.mend(0, 5, 2);
        x.mend(0, 6, 4);
        c.due("day 3", x.puts(0, 300), -9);
        c.due("day 4", x.puts(0, 400), 0);
        x.mend(0, 6, 2);
        c.due("again on the same day does not count", x.puts(0, 400), -9);
        x.mend(0, 6, 1);
        c.due("nor ahead of it", x.puts(0, 400), -9);
        c.due("kept ahead of both", x.puts(0, 100), 0);
    }
}
