/** The edges of THE TAPE and THE LAW, sentence by sentence: Terms 1, promises 7 to 9. */
public final class EdgesLawTest {
    private static final int BAD = CastWithVows.BAD, FULL = CastWithVows.FULL, VOID = CastWithVows.VOID;
    private static final String OPENS = "0123456789wkdhbp(!-";
    private static final String BINDS = "*/%+-|&";
    private static final Check c = new Check();

    public static void main(String[] args) {
        bytes();
        fullTape();
        emptied();
        eachNextByte();
        noTextGoesOn();
        lines();
        numbers();
        openAtOnce();
        tooEarly();
        longTexts();
        wraps();
        divisions();
        truths();
        whichLine();
        names();
        heldWithin();
        withoutText();
        whomAndWhen();
        c.end();
    }

    /** Vow 0 of weight 7, BY 3, in bell 2 (tone 20), broken from day 10 on. */
    private static CastWithVows one() {
        CastWithVows x = Check.bells(0, 10, 20);
        x.vow(2, 7);
        x.mend(0, 4, 3);
        x.mend(0, 5, 10);
        return x;
    }

    /** The law becomes a text; on day 15 at hour 4 it gives this. */
    private static void gives(String text, int want) {
        CastWithVows x = one();
        c.due("law of " + text, Check.feed(x, text), 1);
        c.due(text, x.puts(0, 1504), want);
    }

    private static void fault(String text, int place) {
        CastWithVows x = one();
        c.due("law of " + text, Check.feed(x, text), -100 - place);
        c.due("the law stays none behind " + text, x.puts(0, 1504), -7);
    }

    private static void good(String text) {
        c.due("law of " + text, Check.feed(new CastWithVows(), text), 1);
    }

    // ---- the tape

    private static void bytes() {
        c.promise("A byte (0 .. 255) comes to THE TAPE");
        CastWithVows x = new CastWithVows();
        for (int letter : new int[] {-1, 256, -128, -256, 257, Integer.MIN_VALUE, Integer.MAX_VALUE, 1 << 8 | 'w'}) {
            c.due("feed(" + letter + ")", x.feed(letter), BAD);
            c.due("none came", x.count(2), 0);
        }
        c.due("feed(0)", x.feed(0), 1);
        c.due("feed(255)", x.feed(255), 2);
        c.due("feed(128)", x.feed(128), 3);
        c.due("three", x.count(2), 3);
        c.due("0 is a byte with which no TEXT goes on", x.law(), -100);
        for (int letter = 0; letter <= 255; letter++) {
            c.due("feed(" + letter + ")", x.feed(letter), letter < 120 ? letter + 1 : FULL);
        }
    }

    private static void fullTape() {
        c.promise("FULL (120)");
        CastWithVows x = one();
        for (int i = 1; i <= 120; i++) {
            c.due("feed " + i, x.feed(i == 1 ? '-' : i % 2 == 0 ? 'w' : '-'), i);
        }
        c.due("a 121st", x.feed('w'), FULL);
        c.due("and again", x.feed(0), FULL);
        c.due("BAD is named first", x.feed(-1), BAD);
        c.due("BAD is named first", x.feed(256), BAD);
        c.due("still 120", x.count(2), 120);
        c.due("they are a text: -w, less 59 times w", x.law(), 1);
        c.due("none", x.count(2), 0);
        c.due("it holds", x.puts(0, 0), -9);
        c.due("there is room again", x.feed('w'), 1);
        c.due("a byte that was refused was not kept", x.law(), 1);
        c.due("w alone", x.puts(0, 0), 7);
    }

    private static void emptied() {
        c.promise("THE TAPE is empty then");
        CastWithVows x = one();
        c.due("a law", Check.feed(x, "3"), 1);
        c.due("none", x.count(2), 0);
        c.due("no text: the length is 0", x.law(), -100);
        c.due("the law stays", x.puts(0, 0), 3);
        c.due("a fault", Check.feed(x, "4+)"), -102);
        c.due("none", x.count(2), 0);
        c.due("the law stays", x.puts(0, 0), 3);
        c.due("a text behind a fault starts anew", Check.feed(x, "5"), 1);
        c.due("the law is the new one", x.puts(0, 0), 5);
        c.due("a longer one", Check.feed(x, "w-1;9"), 1);
        c.due("then a shorter one", Check.feed(x, "2"), 1);
        c.due("of which nothing longer is left", x.puts(0, 0), 2);
        c.due("a law is no change", x.count(3), 2);
        c.due("none has been undone", x.redo(), CastWithVows.STATE);
    }

    // ---- the grammar

    /** Behind a text every byte is tried: those that may stand there, all others are the FAULT. */
    private static void next(String text, String may, boolean ends) {
        for (int letter = 0; letter <= 255; letter++) {
            CastWithVows x = new CastWithVows();
            for (int i = 0; i < text.length(); i++) {
                x.feed(text.charAt(i));
            }
            x.feed(letter);
            boolean goesOn = may.indexOf((char) letter) >= 0;
            int got = x.law();
            int place = -100 - text.length();
            if (goesOn) {
                c.that("byte " + letter + " behind " + text + " goes on: " + got, got == 1 || got == place - 1);
            } else {
                c.due("byte " + letter + " behind " + text, got, place);
            }
        }
        c.due("law of " + text, Check.feed(new CastWithVows(), text), ends ? 1 : -100 - text.length());
    }

    private static void eachNextByte() {
        String digits = "0123456789";
        c.promise("FAULT: the first byte with which no TEXT goes on: an O");
        String[] wanting = {
            "", "1;", "1?", "1|", "1&", "1<", "1=", "1>", "1+", "1-", "1*", "1/", "1%", "(", "!", "-", "w|k&d<h+b*",
        };
        for (String text : wanting) {
            next(text, OPENS, false);
        }
        c.promise("FAULT: the first byte with which no TEXT goes on: behind an O");
        for (char name : "wkdhbp".toCharArray()) {
            next("" + name, BINDS + "<=>?;", true);
        }
        next("1", digits + BINDS + "<=>?;", true);
        next("123", digits + BINDS + "<=>?;", true);
        next("1234", BINDS + "<=>?;", true);
        next("!w", BINDS + "<=>?;", true);
        next("-w", BINDS + "<=>?;", true);
        next("(w)", BINDS + "<=>?;", true);
        next("w;w", BINDS + "<=>?;", true);
        c.promise("B = S, or S < S, S = S, S > S");
        for (char sign : "<=>".toCharArray()) {
            next("w" + sign + "w", BINDS + "?;", true);
            next("w" + sign + "w&w", BINDS + "<=>?;", true);
            next("w" + sign + "w|w", BINDS + "<=>?;", true);
            next("w" + sign + "w?w", BINDS + "<=>;", true);
            next("w" + sign + "w;w", BINDS + "<=>?;", true);
            next("w" + sign + "(w", BINDS + "<=>)", false);
            next("w" + sign + "(w)", BINDS + "?;", true);
            next("(w" + sign + "w", BINDS + ")", false);
            next("(w" + sign + "w)", BINDS + "<=>?;", true);
        }
        c.promise("LINE: E, or E ? E");
        next("w?w", BINDS + "<=>;", true);
        next("w?w;w", BINDS + "<=>?;", true);
        next("w?w;w?w", BINDS + "<=>;", true);
        c.promise("O = ( E )");
        next("(w", BINDS + "<=>)", false);
        next("((w)", BINDS + "<=>)", false);
        next("(1234", BINDS + "<=>)", false);
        next("w?(w", BINDS + "<=>)", false);
    }

    /** Whether some TEXT begins so: what is open can always be closed by an O and as many ) as it takes. */
    private static boolean goesOn(String text) {
        StringBuilder close = new StringBuilder();
        for (int k = 0; k <= 6; k++) {
            if (Check.feed(new CastWithVows(), text + close) == 1 || Check.feed(new CastWithVows(), text + "1" + close) == 1) {
                return true;
            }
            close.append(')');
        }
        return false;
    }

    private static void noTextGoesOn() {
        c.promise("FAULT: the first byte with which no TEXT goes on, by trying how texts go on");
        String signs = "wkdhbp019(((!!--)))|&<=>+-*/%?;wkd x";
        long z = 7;
        for (int run = 0; run < 1500; run++) {
            StringBuilder text = new StringBuilder();
            int length = 1 + run % 20;
            while (text.length() < length) {
                z = z * 6364136223846793005L + 1442695040888963407L;
                text.append(signs.charAt((int) (z >>> 33) % signs.length()));
            }
            int fault = -100 - Check.feed(new CastWithVows(), text.toString());
            if (fault == -101) {
                c.that(text + " is a TEXT, and so one that goes on", goesOn(text.toString()));
                continue;
            }
            c.that("the FAULT of " + text + " lies in it: " + fault, fault >= 0 && fault <= length);
            c.that(text + " goes on to " + fault, goesOn(text.substring(0, fault)));
            c.that(text + " goes on no more behind " + fault, fault == length || !goesOn(text.substring(0, fault + 1)));
        }
    }

    private static void lines() {
        c.promise("LINES, one or more, parted by ;");
        fault("", 0);
        fault(";", 0);
        fault(";1", 0);
        fault("1;", 2);
        fault("1;;1", 2);
        fault("1;1;", 4);
        good("1");
        good("1;1");
        good("1;1;1");
        StringBuilder many = new StringBuilder("1");
        while (many.length() < 119) {
            many.append(";1");
        }
        good(many.toString());
        fault(many + ";", 120);
        c.promise("LINE: E, or E ? E");
        fault("?", 0);
        fault("?1", 0);
        fault("1?", 2);
        fault("1?;1", 2);
        fault("1??1", 2);
        fault("1?1?1", 3);
        fault("(1?1)", 2);
        fault("(1;1)", 2);
        good("1?1");
        good("1?1;1?1");
        c.promise("No blanks");
        fault(" 1", 0);
        fault("1 ", 1);
        fault("1 +1", 1);
        fault("1+ 1", 2);
        fault("1; 1", 2);
        fault("1\n", 1);
        fault("1\t;1", 1);
    }

    private static void numbers() {
        c.promise("O = a number (1 to 4 digits)");
        gives("0", 0);
        gives("9", 9);
        gives("10-1", 9);
        gives("100-99", 1);
        gives("1000-999", 1);
        gives("9999-9998", 1);
        gives("0000", 0);
        gives("0009", 9);
        gives("0010-9", 1);
        gives("9999=9999", 1);
        fault("10000", 4);
        fault("00000", 4);
        fault("1+12345", 6);
        fault("12345;1", 4);
        fault("(12345)", 5);
        fault("1w", 1);
        fault("w1", 1);
        fault("1(", 1);
        fault("1!", 1);
        fault(")", 0);
        fault("W", 0);
        fault("K", 0);
        fault("x", 0);
        fault("a", 0);
    }

    private static void openAtOnce() {
        c.promise("At most 6 of ( ! - ahead of an O are open at once");
        String[] six = {"((((((", "!!!!!!", "------", "(!-(!-", "-(-(-(", "!(!(!("};
        for (String open : six) {
            StringBuilder close = new StringBuilder();
            for (char sign : open.toCharArray()) {
                close.append(sign == '(' ? ")" : "");
            }
            good(open + "1" + close);
            good(open + "w" + close + "+" + open + "k" + close);
            good(open + "w" + close + "?" + open + "k" + close + ";" + open + "d" + close);
            for (char seventh : "(!-".toCharArray()) {
                fault(open + seventh + "1" + close, 6);
                fault("1*" + open + seventh + "1" + close, 8);
                fault("1?" + open + seventh, 8);
            }
            fault(open + ")", 6);
            fault(open, 6);
        }
        good("(((((1-1)))))");
        good("((((((1-1))))))");
        good("(((((-1)))))");
        good("(((((1--1)))))");
        fault("((((((1--1))))))", 8);
        fault("((((((1+!1))))))", 8);
        fault("((((((1+(1)))))))", 8);
        good("(((((1)+(1))+(1))+(1))+(1))");
        c.promise("one that is closed is open no longer");
        good("-1--1--1--1--1--1--1--1");
        good("!1+!1+!1+!1+!1+!1+!1+!1");
        good("(1)+(1)+(1)+(1)+(1)+(1)+(1)+(1)");
        good("!!!(!!1+!!1)+!!!(!!1)");
        fault("!!!(!!(1)+!!1)", 6);
        good("!-!-!(1)*!-!-!(1)");
        good("-----(1)-(-----1)");
        fault("-----(-1)", 6);
        fault("(-----1)+-----(-1)", 15);
        gives("------7", 7);
        gives("-----7", -7);
        gives("!!!!!!7", 1);
        gives("!!!!!7", 0);
        gives("((((((7))))))", 7);
    }

    private static void tooEarly() {
        c.promise("the length, if it ends too early");
        String[] all = {
            "", "(", "!", "-", "1|", "1&", "1<", "1=", "1>", "1+", "1-", "1*", "1/", "1%", "1;", "1?", "(1", "((1)", "(1+",
            "1?(", "1?(1", "1;(1", "!(", "-!(w", "1<(1", "((((((1)))))", "((((((", "w?k;", "1?2;3?",
        };
        for (String text : all) {
            fault(text, text.length());
        }
    }

    /** 120 bytes: a sign, then by turns an O and a sign. */
    private static String of120(String first, String o, String sign) {
        StringBuilder text = new StringBuilder(first);
        while (text.length() < 120) {
            text.append(text.length() == first.length() ? "" : sign).append(o);
        }
        return text.toString();
    }

    private static void longTexts() {
        c.promise("a TEXT by THE TAPE (at most 120 bytes)");
        gives(of120("-", "1", "-"), -9);
        gives(of120("-", "1", "+"), 9);
        gives(of120("-", "1", "*"), -1);
        gives(of120("-", "0", "|"), 0);
        gives(of120("!", "1", "|"), 1);
        gives(of120("!", "1", "&"), 0);
        gives(of120("!", "0", "&"), 0);
        gives(of120("-", "1", "/"), -1);
        gives(of120("-", "1", "%"), 0);
        gives(of120("-", "7", ";"), -7);
        gives(of120("0?", "77", ";").substring(0, 118) + ";5", 9);
        StringBuilder none = new StringBuilder("0?1");
        while (none.length() < 115) {
            none.append(";0?1");
        }
        gives(none + ";-4", -4);
        gives(none + ";1?5", 5);
        gives(none + ";0?5", 0);
        String all = of120("-", "1", "+");
        fault(all.substring(0, 119), 119);
        fault(all.substring(0, 119) + "+", 119);
        fault(all.substring(0, 119) + ")", 119);
        fault(all.substring(0, 118) + "+-", 120);
        fault(all.substring(0, 118) + "+(", 120);
        fault(all.substring(0, 118) + "+!", 120);
        c.promise("what is fed beyond the 120th byte is none of THE TAPE's");
        CastWithVows x = one();
        for (int i = 0; i < 120; i++) {
            x.feed(all.charAt(i));
        }
        c.due("a 121st", x.feed('+'), FULL);
        c.due("law", x.law(), 1);
    }

    // ---- what it gives

    private static void wraps() {
        c.promise("Ints that wrap");
        String most = "(2048*1024*1024-1)";
        String least = "(2048*1024*1024)";
        gives(least + "<0", 1);
        gives(most + ">0", 1);
        gives(most + "+1=" + least, 1);
        gives(least + "-1=" + most, 1);
        gives("-" + least + "=" + least, 1);
        gives(least + "/-1=" + least, 1);
        gives(least + "%-1", 0);
        gives(most + "*2", -2);
        gives(most + "*" + most, 1);
        gives(least + "*2", 0);
        gives("4096*4096*256", 0);
        gives("9999*9999*9999*9999>0", 9999 * 9999 * 9999 * 9999 > 0 ? 1 : 0);
        gives("9999*9999*9999%1000-" + Math.abs(9999 * 9999 * 9999 % 1000), 9999 * 9999 * 9999 > 0 ? 0 : -9);
        c.promise("held within -9 .. 9, at the ends of the ints");
        gives(most, 9);
        gives(least, -9);
        gives("-" + most, -9);
        gives("-" + least, -9);
    }

    private static void divisions() {
        c.promise("/ and % toward 0");
        gives("7/2", 3);
        gives("-7/2", -3);
        gives("7/-2", -3);
        gives("-7/-2", 3);
        gives("7%2", 1);
        gives("-7%2", -1);
        gives("7%-2", 1);
        gives("-7%-2", -1);
        gives("1/2", 0);
        gives("-1/2", 0);
        c.promise("by 0 they give 0");
        gives("7/0", 0);
        gives("7%0", 0);
        gives("-7/0", 0);
        gives("0/0", 0);
        gives("0%0", 0);
        gives("7/0+5", 5);
        gives("7%(1-1)+5", 5);
        gives("7/(w-7)", 0);
        c.promise("all is worked out");
        gives("0&5/0", 0);
        gives("1|5%0", 1);
        gives("0&(5/0)|1", 1);
    }

    private static void truths() {
        c.promise("| & < = > ! give 1, 0");
        gives("2|4", 1);
        gives("0|4", 1);
        gives("4|0", 1);
        gives("0|0", 0);
        gives("-1|0", 1);
        gives("2&4", 1);
        gives("1&2", 1);
        gives("0&4", 0);
        gives("4&0", 0);
        gives("-1&-2", 1);
        gives("!0", 1);
        gives("!1", 0);
        gives("!7", 0);
        gives("!-1", 0);
        gives("6<7", 1);
        gives("7<7", 0);
        gives("8<7", 0);
        gives("6=7", 0);
        gives("7=7", 1);
        gives("8=7", 0);
        gives("6>7", 0);
        gives("7>7", 0);
        gives("8>7", 1);
        gives("-1<0", 1);
        gives("0>-1", 1);
        c.promise("what binds more");
        gives("1+2*3", 7);
        gives("8-2-3", 3);
        gives("8/2*2", 8);
        gives("8%5/2", 1);
        gives("-2+3", 1);
        gives("!1+1", 1);
        gives("-w+8", 1);
        gives("1+1<3", 1);
        gives("2<3&3<2", 0);
        gives("2<3|3<2", 1);
        gives("1|1&0", 1);
        gives("(1|1)&0", 0);
        gives("0&0|1", 1);
        gives("0&(0|1)", 0);
    }

    private static void whichLine() {
        c.promise("The first LINE without a first E, or whose first E is not 0, counts");
        gives("3", 3);
        gives("3;4", 3);
        gives("1?3;4", 3);
        gives("-1?3;4", 3);
        gives("7?3;4", 3);
        gives("0?3;4", 4);
        gives("0?3;0?4;5", 5);
        gives("0?3;1?4;5", 4);
        gives("0;4", 0);
        gives("1?0;4", 0);
        gives("4096*4096*256?3;4", 4);
        gives("2048*1024*1024?3;4", 3);
        c.promise("none: 0");
        gives("0?3", 0);
        gives("0?3;0?4;0?5", 0);
        gives("d-5?3", 0);
        gives("d-4?3", 3);
    }

    private static void names() {
        c.promise("NAMES: w WEIGHT, k, d, h the hour, b the BELL, p BY");
        gives("w", 7);
        gives("k", 0);
        gives("d", 5);
        gives("h", 4);
        gives("b", 2);
        gives("p", 3);
        CastWithVows x = one();
        Check.feed(x, "k");
        c.promise("k 1, if it is KEPT, else 0");
        c.due("the day ahead", x.puts(0, 900), 1);
        c.due("on the day", x.puts(0, 1000), 0);
        c.promise("d how many days it has been broken (the day less BROKEN; 0, if it is KEPT)");
        Check.feed(x, "d");
        c.due("the day ahead", x.puts(0, 900), 0);
        c.due("on the day", x.puts(0, 1000), 0);
        c.due("the day behind", x.puts(0, 1100), 1);
        x.mend(0, 6, 13);
        c.due("the last day", x.puts(0, 1200), 2);
        c.due("kept again", x.puts(0, 1300), 0);
        x.mend(0, 6, 10);
        c.due("not kept again by a day that is not behind", x.puts(0, 1300), 3);
        x.mend(0, 5, 0);
        x.mend(0, 6, 999);
        Check.feed(x, "d-990");
        c.due("998 days", x.puts(0, 99800), 8);
        Check.feed(x, "k-d");
        x.mend(0, 5, 999);
        c.due("never broken, on day 998", x.puts(0, 99823), 1);
        c.promise("h the hour (0 .. 23)");
        Check.feed(x, "h");
        c.due("hour 0", x.puts(0, 99800), 0);
        Check.feed(x, "h-15");
        c.due("hour 23", x.puts(0, 23), 8);
        c.promise("what changes is told anew");
        Check.feed(x, "w+b-p");
        c.due("7 + 2 - 3", x.puts(0, 0), 6);
        x.mend(0, 3, 9);
        x.mend(0, 2, 0);
        x.mend(0, 4, 5);
        c.due("9 + 0 - 5", x.puts(0, 0), 4);
    }

    private static void heldWithin() {
        c.promise("held within -9 .. 9");
        gives("8", 8);
        gives("9", 9);
        gives("10", 9);
        gives("11", 9);
        gives("-8", -8);
        gives("-9", -9);
        gives("-10", -9);
        gives("-11", -9);
        c.promise("what all its VOWS put it OFF, together: each is held, not the PITCH");
        CastWithVows x = Check.bells(99, 0);
        for (int v = 0; v < 12; v++) {
            x.vow(v / 6, 1);
        }
        Check.feed(x, "b?-10;10");
        c.due("six times 9 above 99", x.pitch(0, 0, 0), 153);
        c.due("six times 9 below 0", x.pitch(1, 0, 0), -54);
        for (int v = 0; v < 12; v++) {
            x.mend(v, 2, 1);
        }
        c.due("twelve times 9 below 0", x.pitch(1, 0, 0), -108);
        c.due("OFF", x.pitch(1, 0, 1), -108);
        c.due("none is left", x.pitch(0, 0, 1), 0);
        for (int v = 0; v < 12; v++) {
            x.mend(v, 2, 0);
        }
        c.due("twelve times 9 above 99", x.pitch(0, 0, 0), 207);
    }

    private static void withoutText() {
        c.promise("Without a text: 0, if it is KEPT; else minus w");
        for (int w = 1; w <= 9; w++) {
            CastWithVows x = Check.bells(0);
            x.vow(0, w);
            c.due("kept", x.puts(0, 0), 0);
            x.breaks(0);
            c.due("broken", x.puts(0, 0), -w);
            c.due("a text with a fault is none", Check.feed(x, "1+"), -102);
            c.due("broken still", x.puts(0, 0), -w);
            c.due("no bytes are none", x.law(), -100);
            c.due("broken still", x.puts(0, 0), -w);
        }
    }

    private static void whomAndWhen() {
        c.promise("puts: VOID: BAD");
        CastWithVows x = one();
        for (int vow : new int[] {-1, 1, 2, 11, 12, Integer.MIN_VALUE, Integer.MAX_VALUE}) {
            c.due("vow " + vow, x.puts(vow, 0), VOID);
        }
        for (int dh : Check.NO_DAY_HOURS) {
            c.due("dh " + dh, x.puts(0, dh), VOID);
        }
        c.promise("a day (0 .. 998) at an hour (0 .. 23)");
        c.due("the first", x.puts(0, 0), 0);
        c.due("the last hour of day 0", x.puts(0, 23), 0);
        c.due("the first hour of day 10", x.puts(0, 1000), -7);
        c.due("the last hour of day 9", x.puts(0, 923), 0);
        c.due("the first of the last day", x.puts(0, 99800), -7);
        c.due("the last", x.puts(0, 99823), -7);
        c.due("no vows at all", new CastWithVows().puts(0, 0), VOID);
    }
}
