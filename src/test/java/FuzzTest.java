import java.util.ArrayList;
import java.util.List;
import java.util.Random;

/** Random runs of calls, held against the naive Oracle; each run has 512 calls at most. */
public final class FuzzTest {
    private static final int[] ODD = {
        Integer.MIN_VALUE, Integer.MIN_VALUE + 1, -2000000000, -1000, -101, -100, -99, -24, -14, -13, -12, -11,
        -3, -2, -1, 24, 25, 60, 61, 99, 100, 101, 120, 121, 255, 256, 998, 999, 1000, 2399, 2400, 9923, 10000,
        99823, 99824, 99900, 1 << 20, Integer.MAX_VALUE - 2, Integer.MAX_VALUE - 1, Integer.MAX_VALUE,
    };

    private final Random random;
    private final CastWithVows x = new CastWithVows();
    private final Oracle o = new Oracle();
    private final List<String> told = new ArrayList<>();
    private int calls;
    private boolean wrong;

    private FuzzTest(long seed) {
        random = new Random(seed);
    }

    private void due(String call, long got, long want) {
        calls++;
        told.add(call + " = " + got);
        if (got != want) {
            wrong = true;
            told.add("due is " + want);
        }
    }

    private boolean open() {
        return !wrong && calls < 508;
    }

    /** Mostly a number from 0 to most, seldom an odd one. */
    private int some(int most) {
        return random.nextInt(30) == 0 ? ODD[random.nextInt(ODD.length)] : random.nextInt(most + 1);
    }

    private int day() {
        switch (random.nextInt(6)) {
            case 0: return some(998);
            case 1: return 990 + some(9);
            default: return some(25);
        }
    }

    private int dh() {
        return random.nextInt(30) == 0 ? some(5) : 100 * day() + some(23);
    }

    private int hd() {
        return 100 * some(23) + some(random.nextBoolean() ? 10 : 99);
    }

    private int shelf() {
        return some(5);
    }

    private int bell() {
        return random.nextInt(15) == 0 ? some(6) : random.nextInt(Math.max(1, o.count(0)));
    }

    private int vow() {
        return random.nextInt(15) == 0 ? some(12) : random.nextInt(Math.max(1, o.count(1)));
    }

    // ---- texts

    private String one(int open) {
        int r = random.nextInt(open < 7 ? 12 : 8);
        if (r < 5) {
            return "" + "wkdhbp".charAt(random.nextInt(6));
        }
        if (r < 8) {
            int[] tops = {3, 10, 100, 10000};
            return "" + random.nextInt(tops[random.nextInt(4)]);
        }
        return r == 8 ? "!" + one(open + 1) : r == 9 ? "-" + one(open + 1) : "(" + either(open + 1) + ")";
    }

    private String joined(int open, int level) {
        if (level == 5) {
            return one(open);
        }
        String[] signs = {"|", "&", "<=>", "+-", "*/%"};
        String text = joined(open, level + 1);
        int most = level == 2 ? 1 : 2;
        for (int i = 0; i < most && random.nextInt(5) == 0; i++) {
            text += signs[level].charAt(random.nextInt(signs[level].length())) + joined(open, level + 1);
        }
        return text;
    }

    private String either(int open) {
        return joined(open, 0);
    }

    private String text() {
        StringBuilder text = new StringBuilder();
        int lines = 1 + random.nextInt(3);
        for (int i = 0; i < lines; i++) {
            text.append(i == 0 ? "" : ";").append(either(0));
            if (random.nextInt(2) == 0) {
                text.append('?').append(either(0));
            }
        }
        if (random.nextInt(4) == 0 && text.length() > 0) {
            int at = random.nextInt(text.length());
            String signs = "wkdhbp|&<=>+-*/%!()?;0123456789 x";
            char c = random.nextInt(8) == 0 ? (char) random.nextInt(256) : signs.charAt(random.nextInt(signs.length()));
            switch (random.nextInt(3)) {
                case 0: text.setCharAt(at, c); break;
                case 1: text.insert(at, c); break;
                default: text.setLength(at); break;
            }
        }
        return text.toString();
    }

    private void law() {
        String text = text();
        if (random.nextInt(2) == 0) {
            String[] plain = {
                "k?0;0-w", "k=0&h<12?0-w;(k=0)*(d/3-w)+(b=1)*(p=2)", "!k*(w-b*3)", "(k=0)*w*(b%2*2-1)", "w-d",
                "(!k)*(w-5)", "-!k*(d%3)", "h>11?w*!k;b+p-w", "k-1",
            };
            text = plain[random.nextInt(plain.length)];
        }
        if (text.length() + calls > 500) {
            return;
        }
        for (int i = 0; i < text.length(); i++) {
            int c = text.charAt(i);
            due("feed(" + c + ")", x.feed(c), o.feed(c));
        }
        due("law()", x.law(), o.law());
    }

    // ---- rows

    private void pitches(int shelf, int bell, boolean byDays) {
        int n = random.nextInt(random.nextInt(20) == 0 ? 61 : 7);
        due("row(" + shelf + ", 1, " + n + ")", x.row(shelf, 1, n), o.row(shelf, 1, n));
        int from = day();
        int hour = random.nextInt(24);
        for (int i = 0; i < n && open(); i++) {
            int at = byDays ? o.pitch(bell, 100 * Math.min(998, Math.max(0, from) + i) + hour, 0)
                : o.pitch(i, 100 * random.nextInt(30) + hour, 0);
            int v = random.nextInt(9) == 0 ? -1 : random.nextInt(19) == 0 ? some(70000) : at;
            due("put(" + shelf + ", " + i + ", " + v + ")", x.put(shelf, i, v), o.put(shelf, i, v));
        }
        if (byDays) {
            int dh = random.nextInt(4) == 0 ? dh() : 100 * from + hour;
            due("judge(" + shelf + ", " + bell + ", " + dh + ")", x.judge(shelf, bell, dh), o.judge(shelf, bell, dh));
            for (int what = 0; what < 2; what++) {
                due("broke(" + shelf + ", " + bell + ", " + dh + ", " + what + ")", x.broke(shelf, bell, dh, what),
                    o.broke(shelf, bell, dh, what));
            }
        } else {
            int hd = 100 * hour + some(20);
            for (int what = 0; what < 3; what++) {
                due("strike(" + shelf + ", " + hd + ", " + what + ")", x.strike(shelf, hd, what), o.strike(shelf, hd, what));
            }
        }
    }

    private void vowRow() {
        int shelf = shelf();
        int n = random.nextInt(20);
        due("row(" + shelf + ", 0, " + n + ")", x.row(shelf, 0, n), o.row(shelf, 0, n));
        for (int i = 0; i < n && open(); i++) {
            int v = i % 3 == 0 ? bell() : i % 3 == 1 ? 1 + random.nextInt(9) : some(5);
            due("put(" + shelf + ", " + i + ", " + v + ")", x.put(shelf, i, v), o.put(shelf, i, v));
        }
        int i = random.nextInt(3) == 0 ? some(20) : 0;
        int many = random.nextInt(3) == 0 ? some(13) : 1 + random.nextInt(4);
        due("vows(" + shelf + ", " + i + ", " + many + ")", x.vows(shelf, i, many), o.vows(shelf, i, many));
    }

    // ---- calls

    private void bellsAndVows(int r) {
        int a = vow();
        int w = some(11);
        int v = some(random.nextBoolean() ? 12 : 30);
        switch (r) {
            case 0: due("bell(" + v + ")", x.bell(v), o.bell(v)); break;
            case 1: w = some(10); a = bell(); due("vow(" + a + ", " + w + ")", x.vow(a, w), o.vow(a, w)); break;
            case 2: due("of(" + a + ", " + w + ")", x.of(a, w), o.of(a, w)); break;
            case 3: vowRow(); break;
            case 4: law(); break;
            default:
                w = some(8);
                a = w == 7 && random.nextInt(4) > 0 ? 0 : w < 2 ? bell() : a;
                v = w == 5 || w == 6 ? random.nextInt(8) == 0 ? 995 + some(9) : some(25) : v;
                due("mend(" + a + ", " + w + ", " + v + ")", x.mend(a, w, v), o.mend(a, w, v));
                break;
        }
    }

    private void sounds(int r) {
        int dh = dh();
        int b = bell();
        int what = some(3);
        int n;
        switch (r) {
            case 0: n = vow(); due("puts(" + n + ", " + dh + ")", x.puts(n, dh), o.puts(n, dh)); break;
            case 1: due("pitch(" + b + ", " + dh + ", " + what + ")", x.pitch(b, dh, what), o.pitch(b, dh, what)); break;
            case 2: due("town(" + dh + ", " + what + ")", x.town(dh, what), o.town(dh, what)); break;
            case 3: n = 10 * b + bell(); due("beats(" + n + ", " + dh + ")", x.beats(n, dh), o.beats(n, dh)); break;
            case 4:
                n = some(1 << Math.max(0, o.count(0)));
                what = some(1);
                due("chime(" + n + ", " + dh + ", " + what + ")", x.chime(n, dh, what), o.chime(n, dh, what));
                break;
            case 5:
                n = random.nextInt(3) == 0 ? 0 : some(40);
                due("days(" + b + ", " + dh + ", " + n + ")", x.days(b, dh, n), o.days(b, dh, n));
                break;
            case 6: n = some(6) - 1; due("fault(" + n + ", " + dh + ")", x.fault(n, dh), o.fault(n, dh)); break;
            case 7: what = some(1); due("win(" + dh + ", " + what + ")", x.win(dh, what), o.win(dh, what)); break;
            default:
                n = some(23);
                int d = some(20);
                due("silent(" + n + ", " + d + ")", x.silent(n, d), o.silent(n, d));
                break;
        }
    }

    private void heardAndCast(int r) {
        int b = bell();
        int dh = dh();
        int what = some(3);
        int n;
        int hd = hd();
        switch (r) {
            case 0:
            case 1:
                n = random.nextInt(5) == 0 ? some(99) : o.pitch(b, 100 * random.nextInt(30) + hd % 24, 0);
                due("heard(" + b + ", " + n + ", " + hd + ", " + what + ")", x.heard(b, n, hd, what), o.heard(b, n, hd, what));
                break;
            case 2: pitches(random.nextInt(6), b, false); break;
            case 3: pitches(random.nextInt(6), b, true); break;
            case 4:
                n = shelf();
                due("strike(" + n + ", " + hd + ", " + what + ")", x.strike(n, hd, what), o.strike(n, hd, what));
                due("judge(" + n + ", " + b + ", " + dh + ")", x.judge(n, b, dh), o.judge(n, b, dh));
                due("broke(" + n + ", " + b + ", " + dh + ", " + what + ")", x.broke(n, b, dh, what), o.broke(n, b, dh, what));
                break;
            case 5:
                n = vow();
                int nh = 100 * some(30) + some(23);
                what = some(1);
                due("cast(" + n + ", " + nh + ", " + what + ")", x.cast(n, nh, what), o.cast(n, nh, what));
                break;
            case 6:
                n = random.nextBoolean() ? -1 : vow();
                due("melt(" + b + ", " + dh + ", " + n + ")", x.melt(b, dh, n), o.melt(b, dh, n));
                break;
            case 7: due("pairs(" + dh + ")", x.pairs(dh), o.pairs(dh)); break;
            default:
                n = random.nextInt();
                int nm = 100 * some(20) + some(99);
                int day = day();
                what = some(1);
                due("drawn(" + n + ", " + nm + ", " + day + ", " + what + ")", x.drawn(n, nm, day, what),
                    o.drawn(n, nm, day, what));
                break;
        }
    }

    private void deeds(int r) {
        int v = vow();
        int n;
        switch (r) {
            case 0: due("breaks(" + v + ")", x.breaks(v), o.breaks(v)); break;
            case 1: due("keeps(" + v + ")", x.keeps(v), o.keeps(v)); break;
            case 2: n = some(random.nextInt(6) == 0 ? 99 : 4); due("pass(" + n + ")", x.pass(n), o.pass(n)); break;
            case 3:
                v = bell();
                n = some(23);
                due("ring(" + v + ", " + n + ")", x.ring(v, n), o.ring(v, n));
                break;
            case 4: n = some(5); due("led(" + n + ")", x.led(n), o.led(n)); break;
            case 5: due("image()", x.image(), o.image()); break;
            case 6: due("back()", x.back(), o.back()); break;
            case 7: due("undo()", x.undo(), o.undo()); break;
            case 8: due("redo()", x.redo(), o.redo()); break;
            default: n = some(6); due("count(" + n + ")", x.count(n), o.count(n)); break;
        }
    }

    private void actsAndShelves(int r) {
        int s = shelf();
        int n = some(7);
        int k = some(7);
        int i = some(8);
        switch (r) {
            case 0: due("body(" + k + ")", x.body(k), o.body(k)); break;
            case 1:
                k = random.nextInt(9) == 0 ? random.nextInt() : some(9);
                i = some(3);
                due("act(" + n + ", " + i + ", " + k + ")", x.act(n, i, k), o.act(n, i, k));
                for (int t = 0; t < 12 && open(); t++) {
                    due("trace(" + t + ")", x.trace(t), o.trace(t));
                }
                break;
            case 2: n = some(30) - 1; due("trace(" + n + ")", x.trace(n), o.trace(n)); break;
            case 3: n -= 1; due("keep(" + s + ", " + n + ")", x.keep(s, n), o.keep(s, n)); break;
            case 4:
                k = some(5);
                n = random.nextInt(9) == 0 ? -n : n;
                due("row(" + s + ", " + k + ", " + n + ")", x.row(s, k, n), o.row(s, k, n));
                break;
            case 5:
                long v = random.nextInt(3) == 0 ? random.nextLong() : random.nextInt(3) == 0 ? 256L << some(40) : some(300);
                due("put(" + s + ", " + i + ", " + v + ")", x.put(s, i, v), o.put(s, i, v));
                break;
            case 6: due("element(" + s + ", " + i + ")", x.element(s, i), o.element(s, i)); break;
            case 7:
                int t = random.nextInt(3) == 0 ? s : shelf();
                int j = some(4);
                i = some(4);
                n = some(4);
                due("shift(" + s + ", " + i + ", " + t + ", " + j + ", " + n + ")", x.shift(s, i, t, j, n), o.shift(s, i, t, j, n));
                for (int e = 0; e < 8 && open(); e++) {
                    due("element(" + t + ", " + e + ")", x.element(t, e), o.element(t, e));
                }
                break;
            default: due("taken(" + s + ", " + k + ")", x.taken(s, k), o.taken(s, k)); break;
        }
    }

    private void call() {
        switch (random.nextInt(6)) {
            case 0: bellsAndVows(random.nextInt(9)); break;
            case 1: sounds(random.nextInt(9)); break;
            case 2: sounds(random.nextInt(9)); break;
            case 3: heardAndCast(random.nextInt(9)); break;
            case 4: deeds(random.nextInt(10)); break;
            default: actsAndShelves(random.nextInt(9)); break;
        }
    }

    private boolean run() {
        int bells = random.nextInt(7);
        for (int i = 0; i < bells; i++) {
            int tone = random.nextInt(100);
            due("bell(" + tone + ")", x.bell(tone), o.bell(tone));
        }
        int vows = random.nextInt(random.nextInt(8) == 0 ? 13 : 9);
        for (int i = 0; i < vows; i++) {
            int b = bell();
            int w = 1 + random.nextInt(9);
            due("vow(" + b + ", " + w + ")", x.vow(b, w), o.vow(b, w));
        }
        if (random.nextBoolean()) {
            law();
        }
        while (open()) {
            call();
        }
        return !wrong;
    }

    public static void main(String[] args) {
        long first = args.length > 0 ? Long.parseLong(args[0]) : 1;
        int runs = args.length > 1 ? Integer.parseInt(args[1]) : 150;
        for (long seed = first; seed < first + runs; seed++) {
            FuzzTest run = new FuzzTest(seed);
            boolean good;
            try {
                good = run.run();
            } catch (RuntimeException e) {
                e.printStackTrace(System.out);
                good = false;
            }
            if (!good) {
                System.out.println("run with seed " + seed + ":");
                for (String line : run.told) {
                    System.out.println("  " + line);
                }
                System.exit(1);
            }
        }
        System.out.println(runs + " random runs are as due");
    }
}
