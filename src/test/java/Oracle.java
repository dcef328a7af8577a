import java.util.ArrayList;
import java.util.HashSet;
import java.util.List;
import java.util.Set;

/**
 * The document once more, as naively as can be and with the whole Java library, so that the
 * class can be held against it. It lets the machine throw where the document's host refuses.
 */
final class Oracle {
    static final int BAD = -1, NOT = -2, FULL = -3, STATE = -5, VOID = -2000000000;

    static final class Bell {
        int tone;
        int tune = 12;
    }

    static final class Vow {
        int bell;
        int weight;
        int by;
        int broken = 999;
        int again = 999;

        Vow copy() {
            Vow v = new Vow();
            v.bell = bell;
            v.weight = weight;
            v.by = by;
            v.broken = broken;
            v.again = again;
            return v;
        }

        boolean kept(int day) {
            return day < broken || broken < again && again <= day;
        }
    }

    private List<Bell> bells = new ArrayList<>();
    private List<Vow> vows = new ArrayList<>();
    private int faithless = 1;
    private String tape = "";
    private String law;
    private int today;
    private int[] led = new int[4];
    private List<int[]> undo = new ArrayList<>();
    private List<int[]> redo = new ArrayList<>();
    private List<Vow> imageVows;
    private int imageToday;
    private int[] imageLed;
    private List<Sound> bodies = new ArrayList<>();
    private List<Integer> trace = new ArrayList<>();
    private Object[] shelves = new Object[6];

    // ---- the law

    private static int split(String s, String signs, boolean last) {
        int open = 0;
        int found = -1;
        for (int i = 0; i < s.length(); i++) {
            char c = s.charAt(i);
            if (c == '(') {
                open++;
            } else if (c == ')') {
                open--;
            } else if (open == 0 && i > 0 && signs.indexOf(c) >= 0) {
                char before = s.charAt(i - 1);
                boolean behindOperand = Character.isLetterOrDigit(before) || before == ')';
                if (behindOperand) {
                    found = i;
                    if (!last) {
                        return i;
                    }
                }
            }
        }
        return found;
    }

    private static int value(String s, int[] names) {
        int at = split(s, "|", true);
        if (at >= 0) {
            int l = value(s.substring(0, at), names);
            int r = value(s.substring(at + 1), names);
            return l != 0 || r != 0 ? 1 : 0;
        }
        at = split(s, "&", true);
        if (at >= 0) {
            int l = value(s.substring(0, at), names);
            int r = value(s.substring(at + 1), names);
            return l != 0 && r != 0 ? 1 : 0;
        }
        for (String signs : new String[] {"<=>", "+-", "*/%"}) {
            at = split(s, signs, true);
            if (at >= 0) {
                int l = value(s.substring(0, at), names);
                int r = value(s.substring(at + 1), names);
                switch (s.charAt(at)) {
                    case '<': return l < r ? 1 : 0;
                    case '=': return l == r ? 1 : 0;
                    case '>': return l > r ? 1 : 0;
                    case '+': return l + r;
                    case '-': return l - r;
                    case '*': return l * r;
                    case '/': return r == 0 ? 0 : l / r;
                    default: return r == 0 ? 0 : l % r;
                }
            }
        }
        char c = s.charAt(0);
        if (c == '!') {
            return value(s.substring(1), names) == 0 ? 1 : 0;
        }
        if (c == '-') {
            return -value(s.substring(1), names);
        }
        if (c == '(') {
            return value(s.substring(1, s.length() - 1), names);
        }
        return Character.isDigit(c) ? Integer.parseInt(s) : names["wkdhbp".indexOf(c)];
    }

    private static int lawValue(String text, int[] names) {
        for (String line : text.split(";")) {
            int q = line.indexOf('?');
            if (q < 0) {
                return value(line, names);
            }
            if (value(line.substring(0, q), names) != 0) {
                return value(line.substring(q + 1), names);
            }
        }
        return 0;
    }

    /** The place of the FAULT, or -1: what may come next is held as a state, byte by byte. */
    static int faultIn(String s) {
        List<Character> open = new ArrayList<>();
        List<Boolean> compared = new ArrayList<>();
        compared.add(false);
        boolean asked = false;
        boolean operand = true;
        int digits = 0;
        for (int i = 0; i < s.length(); i++) {
            char c = s.charAt(i);
            int level = compared.size() - 1;
            if (c >= '0' && c <= '9' && (operand || digits > 0 && digits < 4)) {
                digits = operand ? 1 : digits + 1;
                operand = false;
                close(open);
                continue;
            }
            digits = 0;
            if (operand) {
                if ("(!-".indexOf(c) >= 0 && open.size() < 6) {
                    open.add(c);
                    if (c == '(') {
                        compared.add(false);
                    }
                } else if ("wkdhbp".indexOf(c) >= 0) {
                    operand = false;
                    close(open);
                } else {
                    return i;
                }
                continue;
            }
            operand = true;
            if (c == '|' || c == '&') {
                compared.set(level, false);
            } else if ("<=>".indexOf(c) >= 0 && !compared.get(level)) {
                compared.set(level, true);
            } else if (c == ')' && level > 0) {
                compared.remove(level);
                open.remove(open.size() - 1);
                close(open);
                operand = false;
            } else if (c == '?' && level == 0 && !asked) {
                asked = true;
                compared.set(0, false);
            } else if (c == ';' && level == 0) {
                asked = false;
                compared.set(0, false);
            } else if ("+-*/%".indexOf(c) < 0) {
                return i;
            }
        }
        return operand || compared.size() > 1 ? s.length() : -1;
    }

    private static void close(List<Character> open) {
        while (!open.isEmpty() && open.get(open.size() - 1) != '(') {
            open.remove(open.size() - 1);
        }
    }

    // ---- what a town of VOWS sounds

    private int puts(Vow v, boolean kept, int d, int hour) {
        if (law == null) {
            return kept ? 0 : -v.weight;
        }
        int off = lawValue(law, new int[] {v.weight, kept ? 1 : 0, kept ? 0 : d, hour, v.bell, v.by});
        return off < -9 ? -9 : off > 9 ? 9 : off;
    }

    private int puts(Vow v, int day, int hour) {
        return puts(v, v.kept(day), day - v.broken, hour);
    }

    private int off(List<Vow> of, int bell, int day, int hour) {
        int sum = 0;
        for (Vow v : of) {
            if (v.bell == bell) {
                sum += puts(v, day, hour);
            }
        }
        return sum;
    }

    private int offs(List<Vow> of, int day, int hour) {
        int n = 0;
        for (int b = 0; b < bells.size(); b++) {
            n += off(of, b, day, hour) != 0 ? 1 : 0;
        }
        return n;
    }

    private int pitchOf(int bell, int day, int hour) {
        return bells.get(bell).tone + off(vows, bell, day, hour);
    }

    private List<Vow> copies() {
        List<Vow> all = new ArrayList<>();
        for (Vow v : vows) {
            all.add(v.copy());
        }
        return all;
    }

    private boolean noBell(int b) {
        return b < 0 || b >= bells.size();
    }

    private boolean noVow(int v) {
        return v < 0 || v >= vows.size();
    }

    private static boolean noDay(int dh) {
        return dh < 0 || dh / 100 > 998 || dh % 100 > 23;
    }

    private static boolean noHd(int hd) {
        return hd < 0 || hd / 100 > 23;
    }

    private static boolean noShelf(int s) {
        return s < 0 || s > 5;
    }

    private static boolean out(int v, int from, int to) {
        return v < from || v > to;
    }

    // ---- bells, vows

    int bell(int tone) {
        if (out(tone, 0, 99)) {
            return BAD;
        }
        if (bells.size() == 6) {
            return FULL;
        }
        Bell b = new Bell();
        b.tone = tone;
        bells.add(b);
        return bells.size() - 1;
    }

    int vow(int bell, int weight) {
        if (noBell(bell) || out(weight, 1, 9)) {
            return BAD;
        }
        if (vows.size() == 12) {
            return FULL;
        }
        Vow v = new Vow();
        v.bell = bell;
        v.weight = weight;
        vows.add(v);
        return vows.size() - 1;
    }

    int vows(int shelf, int i, int n) {
        if (noShelf(shelf) || out(n, 1, 12)) {
            return BAD;
        }
        byte[] row;
        try {
            row = (byte[]) shelves[shelf];
        } catch (ClassCastException e) {
            return -12;
        }
        int came = 0;
        try {
            for (; came < n; came++) {
                int b = row[i++];
                int w = row[i++];
                int by = row[i++];
                if (out(by, 0, 5) || vow(b, w) < 0) {
                    break;
                }
                vows.get(vows.size() - 1).by = by;
            }
        } catch (NullPointerException | ArrayIndexOutOfBoundsException e) {
            return came;
        }
        return came;
    }

    private int number(int number, int what) {
        switch (what) {
            case 0: return bells.get(number).tone;
            case 1: return bells.get(number).tune;
            case 2: return vows.get(number).bell;
            case 3: return vows.get(number).weight;
            case 4: return vows.get(number).by;
            case 5: return vows.get(number).broken;
            case 6: return vows.get(number).again;
            default: return faithless;
        }
    }

    private void become(int number, int what, int v) {
        switch (what) {
            case 0: bells.get(number).tone = v; break;
            case 1: bells.get(number).tune = v; break;
            case 2: vows.get(number).bell = v; break;
            case 3: vows.get(number).weight = v; break;
            case 4: vows.get(number).by = v; break;
            case 5: vows.get(number).broken = v; break;
            case 6: vows.get(number).again = v; break;
            default: faithless = v; break;
        }
    }

    private boolean noNumber(int number, int what) {
        if (out(what, 0, 7)) {
            return true;
        }
        return what == 7 ? number != 0 : what < 2 ? noBell(number) : noVow(number);
    }

    int mend(int number, int what, int v) {
        int[][] ranges = {{0, 99}, {1, 24}, {0, bells.size() - 1}, {1, 9}, {0, 5}, {0, 999}, {0, 999}, {0, 12}};
        if (noNumber(number, what) || out(v, ranges[what][0], ranges[what][1])) {
            return BAD;
        }
        int was = number(number, what);
        if (was != v) {
            become(number, what, v);
            undo.add(new int[] {number, what, was, v});
            redo.clear();
            if (undo.size() > 40) {
                undo.remove(0);
            }
        }
        return was;
    }

    int of(int number, int what) {
        if (what == 10) {
            return noVow(number) ? BAD : vows.get(number).kept(today) ? 1 : 0;
        }
        if (what == 11) {
            return number == 0 ? today : BAD;
        }
        return noNumber(number, what) ? BAD : number(number, what);
    }

    int feed(int letter) {
        if (out(letter, 0, 255)) {
            return BAD;
        }
        if (tape.length() == 120) {
            return FULL;
        }
        tape += (char) letter;
        return tape.length();
    }

    int law() {
        int fault = faultIn(tape);
        if (fault < 0) {
            law = tape;
        }
        tape = "";
        return fault < 0 ? 1 : -100 - fault;
    }

    int puts(int vow, int dh) {
        return noVow(vow) || noDay(dh) ? VOID : puts(vows.get(vow), dh / 100, dh % 100);
    }

    // ---- sounds

    int pitch(int bell, int dh, int what) {
        if (noBell(bell) || noDay(dh) || out(what, 0, 1)) {
            return VOID;
        }
        return pitchOf(bell, dh / 100, dh % 100) - (what == 1 ? bells.get(bell).tone : 0);
    }

    int town(int dh, int what) {
        if (noDay(dh) || out(what, 0, 3)) {
            return BAD;
        }
        int day = dh / 100;
        int hour = dh % 100;
        if (what == 0) {
            return offs(vows, day, hour);
        }
        if (what == 1) {
            for (int b = 0; b < bells.size(); b++) {
                if (off(vows, b, day, hour) != 0) {
                    return b;
                }
            }
            return NOT;
        }
        int broken = 0;
        int worst = NOT;
        for (int v = 0; v < vows.size(); v++) {
            broken += vows.get(v).kept(day) ? 0 : 1;
            if (worst < 0 || Math.abs(puts(vows.get(v), day, hour)) > Math.abs(puts(vows.get(worst), day, hour))) {
                worst = v;
            }
        }
        return what == 2 ? broken : worst;
    }

    int beats(int ab, int dh) {
        int a = ab / 10;
        int b = ab % 10;
        if (ab < 0 || noBell(a) || noBell(b) || a == b || noDay(dh)) {
            return BAD;
        }
        int apart = Math.abs(pitchOf(a, dh / 100, dh % 100) - pitchOf(b, dh / 100, dh % 100));
        int tune = bells.get(Math.min(a, b)).tune;
        return Math.min(apart % tune, tune - apart % tune);
    }

    int chime(int set, int dh, int what) {
        if (set < 0 || set >> bells.size() != 0 || noDay(dh) || out(what, 0, 1)) {
            return BAD;
        }
        int pure = 0;
        int pair = NOT;
        for (int ab = 0; ab < 60; ab++) {
            int a = ab / 10;
            int b = ab % 10;
            if (a < b && (set >> a & 1) == 1 && (set >> b & 1) == 1) {
                pure += beats(ab, dh) == 0 ? 1 : 0;
                if (pair < 0 || beats(ab, dh) > beats(pair, dh)) {
                    pair = ab;
                }
            }
        }
        return what == 0 ? pure : pair;
    }

    int days(int bell, int dh, int n) {
        if (noBell(bell) || noDay(dh) || out(n, 0, 999)) {
            return BAD;
        }
        int count = 0;
        for (int day = dh / 100; day <= 998; day++) {
            boolean off = off(vows, bell, day, dh % 100) != 0;
            if (n == 0 && !off) {
                return day;
            }
            if (day < dh / 100 + n && off) {
                count++;
            }
        }
        return n == 0 ? NOT : count;
    }

    int fault(int one, int dh) {
        if (out(one, -1, 5) || noDay(dh)) {
            return BAD;
        }
        if (one == -1) {
            int who = 0;
            for (int o = 1; o < 6; o++) {
                who = fault(o, dh) > fault(who, dh) ? o : who;
            }
            return who;
        }
        List<Vow> its = new ArrayList<>();
        for (Vow v : vows) {
            if (v.by == one) {
                its.add(v);
            }
        }
        int sum = 0;
        for (int b = 0; b < bells.size(); b++) {
            sum += Math.abs(off(its, b, dh / 100, dh % 100));
        }
        return sum;
    }

    int win(int dh, int what) {
        if (noDay(dh) || out(what, 0, 1)) {
            return BAD;
        }
        int day = dh / 100;
        int hour = dh % 100;
        int best = -1;
        sets:
        for (int set = 0; set < 1 << vows.size(); set++) {
            for (int v = 0; v < vows.size(); v++) {
                if ((set >> v & 1) == 1 && vows.get(v).kept(day)) {
                    continue sets;
                }
            }
            if (best >= 0 && Integer.bitCount(set) >= Integer.bitCount(best)) {
                continue;
            }
            List<Vow> then = copies();
            for (int v = 0; v < then.size(); v++) {
                if ((set >> v & 1) == 1) {
                    then.get(v).broken = 999;
                }
            }
            if (offs(then, day, hour) == 0) {
                best = set;
            }
        }
        return best < 0 ? NOT : what == 0 ? Integer.bitCount(best) : best;
    }

    int silent(int hour, int d) {
        if (out(hour, 0, 23) || out(d, 0, 99)) {
            return BAD;
        }
        int set = 0;
        for (int v = 0; v < vows.size(); v++) {
            if (puts(vows.get(v), true, 0, hour) == puts(vows.get(v), false, d, hour)) {
                set += 1 << v;
            }
        }
        return set;
    }

    // ---- heard

    private int[][] table(int hour, int d) {
        int[][] t = new int[vows.size()][2];
        for (int v = 0; v < vows.size(); v++) {
            t[v][0] = puts(vows.get(v), true, 0, hour);
            t[v][1] = puts(vows.get(v), false, d, hour);
        }
        return t;
    }

    private int pitchIf(int bell, int set, int[][] table) {
        int p = bells.get(bell).tone;
        for (int v = 0; v < vows.size(); v++) {
            if (vows.get(v).bell == bell) {
                p += table[v][set >> v & 1];
            }
        }
        return p;
    }

    int heard(int bell, int pitch, int hd, int what) {
        if (noBell(bell) || noHd(hd) || out(what, 0, 3)) {
            return BAD;
        }
        int[][] table = table(hd / 100, hd % 100);
        List<Integer> sets = new ArrayList<>();
        int all = 0;
        for (int v = 0; v < vows.size(); v++) {
            all += vows.get(v).bell == bell ? 1 << v : 0;
        }
        for (int set = 0; set < 1 << vows.size(); set++) {
            if ((set & ~all) == 0 && pitchIf(bell, set, table) == pitch) {
                sets.add(set);
            }
        }
        if (what == 0) {
            return sets.size();
        }
        int broken = all;
        int kept = all;
        for (int set : sets) {
            broken &= set;
            kept &= ~set;
        }
        return sets.isEmpty() ? NOT : what == 1 ? broken : what == 2 ? kept : sets.get(0);
    }

    private short[] shorts(int shelf) {
        return (short[]) shelves[shelf];
    }

    int strike(int shelf, int hd, int what) {
        if (noShelf(shelf) || noHd(hd) || out(what, 0, 2)) {
            return BAD;
        }
        short[] row;
        int length;
        try {
            row = shorts(shelf);
            length = row.length;
        } catch (NullPointerException e) {
            return -11;
        } catch (ClassCastException e) {
            return -12;
        }
        int[][] table = table(hd / 100, hd % 100);
        int left = 0;
        List<Set<Integer>> heard = new ArrayList<>();
        for (int b = 0; b < bells.size(); b++) {
            heard.add(new HashSet<>());
        }
        sets:
        for (int set = 0; set < 1 << vows.size(); set++) {
            for (int b = 0; b < bells.size() && b < length; b++) {
                if (row[b] != -1 && row[b] != pitchIf(b, set, table)) {
                    continue sets;
                }
            }
            left++;
            for (int b = 0; b < bells.size(); b++) {
                heard.get(b).add(pitchIf(b, set, table));
            }
        }
        if (what == 0) {
            return left;
        }
        if (left == 0 || bells.isEmpty()) {
            return NOT;
        }
        int best = 0;
        for (int b = 1; b < bells.size(); b++) {
            best = heard.get(b).size() > heard.get(best).size() ? b : best;
        }
        return what == 1 ? best : heard.get(best).size();
    }

    int judge(int shelf, int bell, int dh) {
        if (noShelf(shelf) || noBell(bell) || noDay(dh)) {
            return BAD;
        }
        try {
            short[] row = shorts(shelf);
            for (int i = 0; i < row.length; i++) {
                if (dh / 100 + i > 998 || pitchOf(bell, dh / 100 + i, dh % 100) != row[i]) {
                    return i;
                }
            }
        } catch (NullPointerException e) {
            return -11;
        } catch (ClassCastException e) {
            return -12;
        }
        return NOT;
    }

    int broke(int shelf, int bell, int dh, int what) {
        if (noShelf(shelf) || noBell(bell) || noDay(dh) || out(what, 0, 1)) {
            return BAD;
        }
        int refused = judge(shelf, bell, dh);
        if (refused < NOT) {
            return refused;
        }
        int first = NOT;
        int n = 0;
        for (int v = 0; v < vows.size(); v++) {
            Vow vow = vows.get(v);
            if (vow.bell != bell) {
                continue;
            }
            int broken = vow.broken;
            int again = vow.again;
            vow.again = 999;
            for (int day = 0; day <= 999; day++) {
                vow.broken = day;
                if (judge(shelf, bell, dh) == NOT) {
                    n++;
                    first = first < 0 ? 1000 * v + day : first;
                }
            }
            vow.broken = broken;
            vow.again = again;
        }
        return what == 0 ? first : n;
    }

    // ---- casting, draws

    int cast(int vow, int nh, int what) {
        if (noVow(vow) || nh < 0 || nh / 100 > 99 || nh % 100 > 23 || out(what, 0, 1)) {
            return BAD;
        }
        int best = -1;
        int fewest = 0;
        List<Vow> then = copies();
        for (int b = 0; b < bells.size(); b++) {
            then.get(vow).bell = b;
            int sum = 0;
            for (int day = 0; day <= nh / 100; day++) {
                sum += offs(then, day, nh % 100);
            }
            if (best < 0 || sum < fewest) {
                best = b;
                fewest = sum;
            }
        }
        return what == 0 ? best : fewest;
    }

    private int fewest;
    private List<Vow> fewestThen;

    private void meltFrom(List<Vow> then, List<Integer> its, int k, int bell, int dh) {
        if (k == its.size()) {
            int n = offs(then, dh / 100, dh % 100);
            if (n < fewest) {
                fewest = n;
                fewestThen = new ArrayList<>();
                for (Vow v : then) {
                    fewestThen.add(v.copy());
                }
            }
            return;
        }
        for (int b = 0; b < bells.size(); b++) {
            if (b != bell) {
                then.get(its.get(k)).bell = b;
                meltFrom(then, its, k + 1, bell, dh);
            }
        }
    }

    int melt(int bell, int dh, int vow) {
        if (noBell(bell) || noDay(dh) || vow != -1 && noVow(vow)) {
            return BAD;
        }
        List<Integer> its = new ArrayList<>();
        for (int v = 0; v < vows.size(); v++) {
            if (vows.get(v).bell == bell) {
                its.add(v);
            }
        }
        if (its.size() > 5) {
            return STATE;
        }
        if (bells.size() == 1 || vow >= 0 && !its.contains(vow)) {
            return NOT;
        }
        fewest = 100;
        meltFrom(copies(), its, 0, bell, dh);
        return vow < 0 ? fewest : fewestThen.get(vow).bell;
    }

    int pairs(int dh) {
        if (noDay(dh)) {
            return BAD;
        }
        int best = NOT;
        int least = offs(vows, dh / 100, dh % 100);
        for (int v = 0; v < vows.size(); v++) {
            for (int u = v + 1; u < vows.size(); u++) {
                List<Vow> then = copies();
                then.get(v).bell = vows.get(u).bell;
                then.get(u).bell = vows.get(v).bell;
                int n = offs(then, dh / 100, dh % 100);
                if (vows.get(v).bell != vows.get(u).bell && n < least) {
                    least = n;
                    best = 20 * v + u;
                }
            }
        }
        return best;
    }

    int drawn(int seed, int nm, int day, int what) {
        int n = nm / 100;
        int m = nm % 100;
        if (nm < 0 || out(n, 1, 20) || out(m, 1, 99) || out(day, 0, 998) || day + m > 999 || out(what, 0, 1)) {
            return BAD;
        }
        int z = seed;
        int off = 0;
        int broken = 0;
        for (int year = 0; year < n; year++) {
            List<Vow> then = copies();
            for (Vow v : then) {
                v.broken = 999;
                v.again = 999;
            }
            for (int today = day; today < day + m; today++) {
                for (Vow v : then) {
                    z = z * 1103515245 + 12345;
                    if ((z >>> 8) % 12 < faithless) {
                        v.broken = v.broken == 999 ? today : 999;
                    }
                }
            }
            off += offs(then, day + m - 1, 12);
            for (Vow v : then) {
                broken += v.broken != 999 ? 1 : 0;
            }
        }
        return what == 0 ? off : broken;
    }

    // ---- in deed

    int breaks(int vow) {
        if (noVow(vow)) {
            return BAD;
        }
        if (!vows.get(vow).kept(today)) {
            return 0;
        }
        vows.get(vow).broken = today;
        vows.get(vow).again = 999;
        led[0]++;
        return 1;
    }

    int keeps(int vow) {
        if (noVow(vow)) {
            return BAD;
        }
        if (vows.get(vow).kept(today)) {
            return 0;
        }
        if (vows.get(vow).broken == today) {
            return STATE;
        }
        vows.get(vow).again = today;
        led[1]++;
        return 1;
    }

    int pass(int n) {
        if (out(n, 1, 99)) {
            return BAD;
        }
        if (today + n > 998) {
            return STATE;
        }
        return today += n;
    }

    int ring(int bell, int hour) {
        if (noBell(bell) || out(hour, 0, 23)) {
            return VOID;
        }
        led[2]++;
        led[3] += off(vows, bell, today, hour) != 0 ? 1 : 0;
        return pitchOf(bell, today, hour);
    }

    int led(int what) {
        return out(what, 0, 4) ? BAD : what == 4 ? today : led[what];
    }

    int image() {
        imageVows = copies();
        imageLed = led.clone();
        return imageToday = today;
    }

    int back() {
        if (imageVows == null) {
            return STATE;
        }
        for (int v = 0; v < imageVows.size(); v++) {
            vows.get(v).broken = imageVows.get(v).broken;
            vows.get(v).again = imageVows.get(v).again;
        }
        led = imageLed.clone();
        return today = imageToday;
    }

    int undo() {
        if (undo.isEmpty()) {
            return STATE;
        }
        int[] c = undo.remove(undo.size() - 1);
        redo.add(c);
        become(c[0], c[1], c[2]);
        return undo.size();
    }

    int redo() {
        if (redo.isEmpty()) {
            return STATE;
        }
        int[] c = redo.remove(redo.size() - 1);
        undo.add(c);
        become(c[0], c[1], c[3]);
        return redo.size();
    }

    // ---- acts, by Java's own inheritance

    interface Sounds {
        int n();

        void ran(int body);

        default int sounds(int x) {
            ran(1);
            return x + n();
        }
    }

    interface Tells {
        void ran(int body);

        int keeps(int x);

        int casts(int x);

        default int tells(int x) {
            ran(2);
            return keeps(x) - casts(1);
        }
    }

    static class Sound implements Sounds, Tells {
        List<Integer> trace;
        int n;

        public int n() {
            return n;
        }

        public void ran(int body) {
            trace.add(body);
        }

        public int keeps(int x) {
            ran(10);
            return sounds(x) * 2;
        }

        public int casts(int x) {
            ran(11);
            return x ^ n;
        }

        int kind() {
            return 0;
        }
    }

    static class VowSound extends Sound {
        public int sounds(int x) {
            ran(20);
            return super.sounds(x) + 3;
        }

        int kind() {
            return 1;
        }
    }

    static class Beat extends Sound {
        public int keeps(int x) {
            ran(30);
            return -super.keeps(x);
        }

        int kind() {
            return 2;
        }
    }

    static class Octave extends Beat {
        public int casts(int x) {
            ran(40);
            return super.casts(x) * 3;
        }

        public int keeps(int x) {
            ran(41);
            return super.keeps(x + 1);
        }

        int kind() {
            return 3;
        }
    }

    static class Wedding extends VowSound {
        public int casts(int x) {
            ran(50);
            return super.casts(x) - sounds(2);
        }

        int kind() {
            return 4;
        }
    }

    static class Widows extends Octave {
        public int tells(int x) {
            ran(60);
            return super.tells(x) ^ 5;
        }

        int kind() {
            return 5;
        }
    }

    static class Crack extends Sound {
        public int sounds(int x) {
            ran(70);
            return super.sounds(x) * 2;
        }

        int kind() {
            return 6;
        }
    }

    static class Child extends Wedding {
        public int keeps(int x) {
            ran(80);
            return super.keeps(x) + casts(2);
        }

        public int tells(int x) {
            ran(81);
            return super.tells(x) - 1;
        }

        int kind() {
            return 7;
        }
    }

    private static Sound make(int kind) {
        switch (kind) {
            case 0: return new Sound();
            case 1: return new VowSound();
            case 2: return new Beat();
            case 3: return new Octave();
            case 4: return new Wedding();
            case 5: return new Widows();
            case 6: return new Crack();
            default: return new Child();
        }
    }

    int body(int kind) {
        if (out(kind, 0, 7)) {
            return BAD;
        }
        if (bodies.size() == 50) {
            return FULL;
        }
        Sound s = make(kind);
        s.trace = trace;
        s.n = bodies.size();
        bodies.add(s);
        return s.n;
    }

    int act(int body, int act, int x) {
        trace.clear();
        if (out(body, 0, bodies.size() - 1) || out(act, 0, 3)) {
            return 0;
        }
        Sound s = bodies.get(body);
        return act == 0 ? s.sounds(x) : act == 1 ? s.keeps(x) : act == 2 ? s.casts(x) : s.tells(x);
    }

    int trace(int i) {
        return out(i, 0, Math.min(24, trace.size()) - 1) ? BAD : trace.get(i);
    }

    // ---- shelves, by Java's own arrays

    int keep(int shelf, int body) {
        if (noShelf(shelf) || out(body, -1, bodies.size() - 1)) {
            return BAD;
        }
        shelves[shelf] = body < 0 ? null : bodies.get(body);
        return 1;
    }

    int row(int shelf, int sort, int n) {
        if (noShelf(shelf) || out(sort, 0, 4) || n > 60) {
            return BAD;
        }
        try {
            shelves[shelf] = sort == 0 ? new byte[n] : sort == 1 ? new short[n] : sort == 2 ? new int[n]
                : sort == 3 ? new long[n] : (Object) new boolean[n];
        } catch (NegativeArraySizeException e) {
            return -14;
        }
        return 1;
    }

    int put(int shelf, int i, long v) {
        if (noShelf(shelf)) {
            return BAD;
        }
        Object o = shelves[shelf];
        if (o == null) {
            return -11;
        }
        try {
            if (o instanceof byte[]) {
                ((byte[]) o)[i] = (byte) v;
            } else if (o instanceof short[]) {
                ((short[]) o)[i] = (short) v;
            } else if (o instanceof int[]) {
                ((int[]) o)[i] = (int) v;
            } else if (o instanceof long[]) {
                ((long[]) o)[i] = v;
            } else {
                ((boolean[]) o)[i] = v != 0;
            }
        } catch (ClassCastException e) {
            return -12;
        } catch (ArrayIndexOutOfBoundsException e) {
            return -13;
        }
        return 1;
    }

    long element(int shelf, int i) {
        try {
            Object o = shelves[shelf];
            if (o instanceof boolean[]) {
                return ((boolean[]) o)[i] ? 1 : 0;
            }
            return java.lang.reflect.Array.getLong(o, i);
        } catch (RuntimeException e) {
            return Long.MIN_VALUE;
        }
    }

    @SuppressWarnings("SuspiciousSystemArraycopy")
    int shift(int shelf, int i, int other, int j, int n) {
        if (noShelf(shelf) || noShelf(other)) {
            return BAD;
        }
        try {
            System.arraycopy(shelves[shelf], i, shelves[other], j, n);
        } catch (NullPointerException e) {
            return -11;
        } catch (ArrayStoreException e) {
            return -12;
        } catch (IndexOutOfBoundsException e) {
            return -13;
        }
        return n;
    }

    int taken(int shelf, int k) {
        if (noShelf(shelf) || out(k, 0, 7)) {
            return BAD;
        }
        if (shelves[shelf] == null) {
            return -11;
        }
        if (!make(k).getClass().isInstance(shelves[shelf])) {
            return -12;
        }
        return ((Sound) shelves[shelf]).kind();
    }

    int count(int what) {
        int[] all = {bells.size(), vows.size(), tape.length(), undo.size(), bodies.size(), trace.size()};
        return out(what, 0, 5) ? BAD : all[what];
    }
}
