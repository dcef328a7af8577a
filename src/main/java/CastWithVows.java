import java.util.Arrays;

/**
 * Bells with vows cast into them. The face checks what it is told and answers by numbers;
 * the classes inside do the work on what has been checked.
 */
public final class CastWithVows {
    public static final int BAD = -1, NOT = -2, FULL = -3, STATE = -5, VOID = -2000000000;

    private static final int NOTHING = -11, OTHER = -12, NO_PLACE = -13, BELOW = -14;
    private static final int BELLS = 6, VOWS = 12, ONES = 6, SHELVES = 6;
    private static final int LAST_DAY = 998, NEVER = 999, LAST_HOUR = 23;
    private static final int MOST_OFF = 9;
    /** How many days a VOW has been broken, where it is KEPT. */
    private static final int KEPT = -1;

    private final Foundry foundry = new Foundry();
    private final Reader tape = new Reader();
    private final Sounds sounds = new Sounds(foundry);
    private final Listener listener = new Listener(foundry);
    private final Caster caster = new Caster(foundry);
    private final Deeds deeds = new Deeds(foundry);
    private final Changes changes = new Changes();
    private final Acts acts = new Acts();
    private final Shelf[] shelves = new Shelf[SHELVES];

    public CastWithVows() {
        for (int i = 0; i < SHELVES; i++) {
            shelves[i] = new Shelf();
        }
    }

    // ---- bells, vows

    public int bell(int tone) {
        if (tone < 0 || tone > 99) {
            return BAD;
        }
        return foundry.bells < BELLS ? foundry.addBell(tone) : FULL;
    }

    public int vow(int bell, int weight) {
        if (!foundry.isVow(bell, weight, 0)) {
            return BAD;
        }
        return foundry.vows < VOWS ? foundry.addVow(bell, weight, 0) : FULL;
    }

    public int vows(int shelf, int i, int n) {
        Shelf from = shelfAt(shelf);
        if (from == null || n < 1 || n > VOWS) {
            return BAD;
        }
        if (from.isEmpty()) {
            return 0;
        }
        return from.isRowOf(Shelf.BYTES) ? vowsFrom(from, i, n) : OTHER;
    }

    public int mend(int number, int what, int v) {
        if (!foundry.hasNumber(number, what) || !foundry.allows(what, v)) {
            return BAD;
        }
        int was = foundry.numberOf(number, what);
        if (was != v) {
            foundry.setNumber(number, what, v);
            changes.add(number, what, was, v);
        }
        return was;
    }

    public int of(int number, int what) {
        if (what == 10) {
            return foundry.hasVow(number) ? bit(foundry.isKept(number, deeds.today)) : BAD;
        }
        if (what == 11) {
            return number == 0 ? deeds.today : BAD;
        }
        return foundry.hasNumber(number, what) ? foundry.numberOf(number, what) : BAD;
    }

    public int feed(int letter) {
        if (letter < 0 || letter > 255) {
            return BAD;
        }
        return tape.add(letter) ? tape.length : FULL;
    }

    public int law() {
        boolean good = tape.isText();
        tape.length = 0;
        if (!good) {
            return -100 - tape.place;
        }
        foundry.law = tape.exchanged(foundry.law);
        return 1;
    }

    public int puts(int vow, int dh) {
        if (!foundry.hasVow(vow) || !isDayHour(dh)) {
            return VOID;
        }
        return foundry.offByVow(vow, dh / 100, dh % 100);
    }

    // ---- sounds

    public int pitch(int bell, int dh, int what) {
        if (!foundry.hasBell(bell) || !isDayHour(dh) || !isWithin(what, 1)) {
            return VOID;
        }
        int off = foundry.offOf(bell, dh / 100, dh % 100);
        return what == 0 ? foundry.tone[bell] + off : off;
    }

    public int town(int dh, int what) {
        if (!isDayHour(dh) || !isWithin(what, 3)) {
            return BAD;
        }
        int day = dh / 100;
        int hour = dh % 100;
        switch (what) {
            case 0: return sounds.bellsOff(day, hour);
            case 1: return sounds.firstOff(day, hour);
            case 2: return sounds.vowsBroken(day);
            default: return sounds.worstVow(day, hour);
        }
    }

    public int beats(int ab, int dh) {
        if (ab < 0 || !isDayHour(dh)) {
            return BAD;
        }
        int a = ab / 10;
        int b = ab % 10;
        if (a == b || !foundry.hasBell(a) || !foundry.hasBell(b)) {
            return BAD;
        }
        sounds.strikeAll(dh / 100, dh % 100);
        return sounds.beatsOf(Math.min(a, b), Math.max(a, b));
    }

    public int chime(int set, int dh, int what) {
        if (set < 0 || set >= 1 << foundry.bells || !isDayHour(dh) || !isWithin(what, 1)) {
            return BAD;
        }
        sounds.strikeAll(dh / 100, dh % 100);
        return what == 0 ? sounds.purePairs(set) : sounds.harshestPair(set);
    }

    public int days(int bell, int dh, int n) {
        if (!foundry.hasBell(bell) || !isDayHour(dh) || !isWithin(n, 999)) {
            return BAD;
        }
        int day = dh / 100;
        int hour = dh % 100;
        return n == 0 ? sounds.firstPureDay(bell, day, hour) : sounds.daysOff(bell, day, hour, n);
    }

    public int fault(int one, int dh) {
        if (one < -1 || one >= ONES || !isDayHour(dh)) {
            return BAD;
        }
        int day = dh / 100;
        int hour = dh % 100;
        return one < 0 ? sounds.mostAtFault(day, hour) : sounds.faultOf(one, day, hour);
    }

    public int win(int dh, int what) {
        if (!isDayHour(dh) || !isWithin(what, 1)) {
            return BAD;
        }
        int set = listener.winBack(dh / 100, dh % 100);
        if (set < 0) {
            return NOT;
        }
        return what == 0 ? Integer.bitCount(set) : set;
    }

    public int silent(int hour, int d) {
        if (!isWithin(hour, LAST_HOUR) || !isWithin(d, 99)) {
            return BAD;
        }
        return listener.unheard(hour, d);
    }

    // ---- heard

    public int heard(int bell, int pitch, int hd, int what) {
        if (!foundry.hasBell(bell) || !isHourDays(hd) || !isWithin(what, 3)) {
            return BAD;
        }
        listener.hear(bell, hd / 100, hd % 100, true, pitch);
        return listener.toldOf(bell, what);
    }

    public int strike(int shelf, int hd, int what) {
        Shelf told = shelfAt(shelf);
        if (told == null || !isHourDays(hd) || !isWithin(what, 2)) {
            return BAD;
        }
        int refusal = told.refusalFor(Shelf.SHORTS);
        return refusal != 0 ? refusal : listener.nextToStrike(told, hd / 100, hd % 100, what);
    }

    public int judge(int shelf, int bell, int dh) {
        Shelf told = shelfAt(shelf);
        if (told == null || !foundry.hasBell(bell) || !isDayHour(dh)) {
            return BAD;
        }
        int refusal = told.refusalFor(Shelf.SHORTS);
        return refusal != 0 ? refusal : listener.firstNotSo(told, bell, dh / 100, dh % 100);
    }

    public int broke(int shelf, int bell, int dh, int what) {
        Shelf told = shelfAt(shelf);
        if (told == null || !foundry.hasBell(bell) || !isDayHour(dh) || !isWithin(what, 1)) {
            return BAD;
        }
        int refusal = told.refusalFor(Shelf.SHORTS);
        return refusal != 0 ? refusal : listener.sinceWhen(told, bell, dh / 100, dh % 100, what);
    }

    // ---- casting, draws

    public int cast(int vow, int nh, int what) {
        if (!foundry.hasVow(vow) || nh < 0 || nh / 100 > 99 || nh % 100 > LAST_HOUR
                || !isWithin(what, 1)) {
            return BAD;
        }
        return caster.castInto(vow, nh / 100, nh % 100, what);
    }

    public int melt(int bell, int dh, int vow) {
        if (!foundry.hasBell(bell) || !isDayHour(dh) || vow != -1 && !foundry.hasVow(vow)) {
            return BAD;
        }
        if (Integer.bitCount(foundry.vowsIn(bell)) > Caster.MELTED) {
            return STATE;
        }
        if (foundry.bells < 2 || vow >= 0 && foundry.bellOf[vow] != bell) {
            return NOT;
        }
        return caster.meltDown(bell, dh / 100, dh % 100, vow);
    }

    public int pairs(int dh) {
        return isDayHour(dh) ? caster.bestExchange(dh / 100, dh % 100) : BAD;
    }

    public int drawn(int seed, int nm, int day, int what) {
        if (nm < 0 || !isWithin(day, LAST_DAY) || !isWithin(what, 1)) {
            return BAD;
        }
        int n = nm / 100;
        int m = nm % 100;
        if (n < 1 || n > 20 || m < 1 || day + m - 1 > LAST_DAY) {
            return BAD;
        }
        return caster.drawYears(seed, n, m, day, what);
    }

    // ---- in deed

    public int breaks(int vow) {
        return foundry.hasVow(vow) ? deeds.breakVow(vow) : BAD;
    }

    public int keeps(int vow) {
        return foundry.hasVow(vow) ? deeds.keepAgain(vow) : BAD;
    }

    public int pass(int n) {
        if (n < 1 || n > 99) {
            return BAD;
        }
        if (deeds.today + n > LAST_DAY) {
            return STATE;
        }
        deeds.today += n;
        return deeds.today;
    }

    public int ring(int bell, int hour) {
        if (!foundry.hasBell(bell) || !isWithin(hour, LAST_HOUR)) {
            return VOID;
        }
        return deeds.ringBell(bell, hour);
    }

    public int led(int what) {
        if (!isWithin(what, Deeds.LED)) {
            return BAD;
        }
        return what < Deeds.LED ? deeds.done[what] : deeds.today;
    }

    public int image() {
        deeds.keepImage();
        return deeds.today;
    }

    public int back() {
        if (!deeds.hasImage) {
            return STATE;
        }
        deeds.layBack();
        return deeds.today;
    }

    public int undo() {
        if (changes.done == 0) {
            return STATE;
        }
        changes.stepBack(foundry);
        return changes.done;
    }

    public int redo() {
        if (changes.done == changes.known) {
            return STATE;
        }
        changes.stepOn(foundry);
        return changes.known - changes.done;
    }

    // ---- acts, shelves

    public int body(int kind) {
        if (!isWithin(kind, Acts.KINDS - 1)) {
            return BAD;
        }
        return acts.bodies < Acts.BODIES ? acts.addBody(kind) : FULL;
    }

    public int act(int body, int act, int x) {
        return acts.start(body, act, x);
    }

    public int trace(int i) {
        return i >= 0 && i < acts.kept() ? acts.trace[i] : BAD;
    }

    public int keep(int shelf, int body) {
        Shelf to = shelfAt(shelf);
        if (to == null || body != -1 && !acts.hasBody(body)) {
            return BAD;
        }
        if (body < 0) {
            to.clear();
        } else {
            to.hold(body);
        }
        return 1;
    }

    public int row(int shelf, int sort, int n) {
        Shelf to = shelfAt(shelf);
        if (to == null || !isWithin(sort, Shelf.BOOLEANS) || n > Shelf.PLACES) {
            return BAD;
        }
        if (n < 0) {
            return BELOW;
        }
        to.lay(sort, n);
        return 1;
    }

    public int put(int shelf, int i, long v) {
        Shelf to = shelfAt(shelf);
        if (to == null) {
            return BAD;
        }
        int refusal = to.refusalAt(i);
        if (refusal != 0) {
            return refusal;
        }
        to.cells[i] = to.narrowed(v);
        return 1;
    }

    public long element(int shelf, int i) {
        Shelf from = shelfAt(shelf);
        return from != null && from.refusalAt(i) == 0 ? from.cells[i] : Long.MIN_VALUE;
    }

    public int shift(int shelf, int i, int other, int j, int n) {
        Shelf from = shelfAt(shelf);
        Shelf to = shelfAt(other);
        if (from == null || to == null) {
            return BAD;
        }
        if (from.isEmpty() || to.isEmpty()) {
            return NOTHING;
        }
        if (!from.isRow() || !to.isRowOf(from.sort)) {
            return OTHER;
        }
        if (!from.hasPlaces(i, n) || !to.hasPlaces(j, n)) {
            return NO_PLACE;
        }
        System.arraycopy(from.cells, i, to.cells, j, n);
        return n;
    }

    public int taken(int shelf, int k) {
        Shelf from = shelfAt(shelf);
        if (from == null || !isWithin(k, Acts.KINDS - 1)) {
            return BAD;
        }
        if (from.isEmpty()) {
            return NOTHING;
        }
        if (from.isRow() || !acts.isUnder(from.body, k)) {
            return OTHER;
        }
        return acts.kinds[from.body];
    }

    public int count(int what) {
        switch (what) {
            case 0: return foundry.bells;
            case 1: return foundry.vows;
            case 2: return tape.length;
            case 3: return changes.done;
            case 4: return acts.bodies;
            case 5: return acts.ran;
            default: return BAD;
        }
    }

    // ---- what the face shares

    private static boolean isWithin(int v, int most) {
        return v >= 0 && v <= most;
    }

    private static boolean isDayHour(int dh) {
        return dh >= 0 && dh / 100 <= LAST_DAY && dh % 100 <= LAST_HOUR;
    }

    private static boolean isHourDays(int hd) {
        return hd >= 0 && hd / 100 <= LAST_HOUR;
    }

    private static int bit(boolean yes) {
        return yes ? 1 : 0;
    }

    private Shelf shelfAt(int shelf) {
        return isWithin(shelf, SHELVES - 1) ? shelves[shelf] : null;
    }

    private int vowsFrom(Shelf from, int i, int n) {
        int came = 0;
        for (int k = 0; k < n && foundry.vows < VOWS; k++) {
            // A long: the last threes of a far place would wrap to places that are there.
            long at = i + 3L * k;
            if (at < 0 || at + 3 > from.size) {
                break;
            }
            int place = (int) at;
            int bell = (int) from.cells[place];
            int weight = (int) from.cells[place + 1];
            int by = (int) from.cells[place + 2];
            if (!foundry.isVow(bell, weight, by)) {
                break;
            }
            foundry.addVow(bell, weight, by);
            came++;
        }
        return came;
    }

    /** The BELLS and VOWS, and how each VOW puts a BELL OFF by THE LAW. */
    private static final class Foundry {
        final int[] tone = new int[BELLS];
        final int[] tune = new int[BELLS];
        final int[] bellOf = new int[VOWS];
        final int[] weight = new int[VOWS];
        final int[] by = new int[VOWS];
        final int[] broken = new int[VOWS];
        final int[] again = new int[VOWS];
        int bells;
        int vows;
        int faithless = 1;
        Program law = new Program();

        boolean hasBell(int bell) {
            return bell >= 0 && bell < bells;
        }

        boolean hasVow(int vow) {
            return vow >= 0 && vow < vows;
        }

        boolean isVow(int bell, int weighs, int whose) {
            return hasBell(bell) && weighs >= 1 && weighs <= 9 && isWithin(whose, ONES - 1);
        }

        int addBell(int sounds) {
            if (bells >= BELLS) {
                return FULL;
            }
            tone[bells] = sounds;
            tune[bells] = 12;
            return bells++;
        }

        int addVow(int bell, int weighs, int whose) {
            if (vows >= VOWS) {
                return FULL;
            }
            bellOf[vows] = bell;
            weight[vows] = weighs;
            by[vows] = whose;
            broken[vows] = NEVER;
            again[vows] = NEVER;
            return vows++;
        }

        boolean hasNumber(int number, int what) {
            if (what == 7) {
                return number == 0;
            }
            return what < 2 ? what >= 0 && hasBell(number) : what < 7 && hasVow(number);
        }

        boolean allows(int what, int v) {
            switch (what) {
                case 0: return isWithin(v, 99);
                case 1: return v >= 1 && v <= 24;
                case 2: return hasBell(v);
                case 3: return v >= 1 && v <= 9;
                case 4: return isWithin(v, ONES - 1);
                case 5: case 6: return isWithin(v, NEVER);
                case 7: return isWithin(v, 12);
                default: return false;
            }
        }

        int numberOf(int number, int what) {
            if (!hasNumber(number, what)) {
                return BAD;
            }
            return what == 7 ? faithless : rowOf(what)[number];
        }

        void setNumber(int number, int what, int v) {
            if (!hasNumber(number, what)) {
                return;
            }
            if (what == 7) {
                faithless = v;
            } else {
                rowOf(what)[number] = v;
            }
        }

        private int[] rowOf(int what) {
            switch (what) {
                case 0: return tone;
                case 1: return tune;
                case 2: return bellOf;
                case 3: return weight;
                case 4: return by;
                case 5: return broken;
                default: return again;
            }
        }

        boolean isKept(int vow, int day) {
            return day < broken[vow] || broken[vow] < again[vow] && again[vow] <= day;
        }

        int daysBroken(int vow, int day) {
            return isKept(vow, day) ? KEPT : day - broken[vow];
        }

        /** By how much a VOW would put a BELL OFF, were it in that BELL and broken so long. */
        int offIf(int vow, int bell, int brokenDays, int hour) {
            if (law.size == 0) {
                return brokenDays == KEPT ? 0 : -weight[vow];
            }
            int kept = bit(brokenDays == KEPT);
            law.tell(weight[vow], kept, Math.max(brokenDays, 0), hour, bell, by[vow]);
            return Math.max(-MOST_OFF, Math.min(MOST_OFF, law.value()));
        }

        int offByVow(int vow, int day, int hour) {
            return offIf(vow, bellOf[vow], daysBroken(vow, day), hour);
        }

        int offOf(int bell, int day, int hour) {
            int off = 0;
            for (int v = 0; v < vows; v++) {
                if (bellOf[v] == bell) {
                    off += offIf(v, bell, daysBroken(v, day), hour);
                }
            }
            return off;
        }

        /** How much each BELL is OFF but for the VOWS of a set. */
        void fillOffs(int[] offs, int day, int hour, int without) {
            Arrays.fill(offs, 0);
            for (int v = 0; v < vows; v++) {
                if ((without >> v & 1) == 0) {
                    offs[bellOf[v]] += offIf(v, bellOf[v], daysBroken(v, day), hour);
                }
            }
        }

        int vowsIn(int bell) {
            int set = 0;
            for (int v = 0; v < vows; v++) {
                if (bellOf[v] == bell) {
                    set |= 1 << v;
                }
            }
            return set;
        }
    }

    /** A text that has been read: what to do with a stack, in order, so that no text is read twice. */
    private static final class Program {
        static final int NUMBER = '#', NAME = 'a', MINUS = '~', CHECK = '?', END = ';';
        /** Each byte of a text makes one step at most, and the last LINE's end makes one more. */
        static final int STEPS = Reader.LETTERS + 1;

        final int[] steps = new int[STEPS];
        final int[] args = new int[STEPS];
        final int[] stack = new int[STEPS];
        final int[] named = new int[6];
        int size;

        void add(int step, int arg) {
            if (size < STEPS) {
                steps[size] = step;
                args[size] = arg;
                size++;
            }
        }

        void tell(int w, int k, int d, int h, int b, int p) {
            named[0] = w;
            named[1] = k;
            named[2] = d;
            named[3] = h;
            named[4] = b;
            named[5] = p;
        }

        int value() {
            int top = 0;
            int at = 0;
            for (int i = 0; i < size && at >= 0 && at < size; i++) {
                int step = steps[at];
                int arg = args[at];
                at++;
                if (step == NUMBER || step == NAME) {
                    if (top < STEPS) {
                        stack[top] = step == NUMBER ? arg : toldAs(arg);
                        top++;
                    }
                    continue;
                }
                if (top < 1) {
                    return 0;
                }
                top--;
                int last = stack[top];
                if (step == END) {
                    return last;
                }
                if (step == CHECK) {
                    at = last != 0 ? at : arg;
                } else if (step == MINUS || step == '!') {
                    stack[top] = step == MINUS ? -last : bit(last == 0);
                    top++;
                } else if (top > 0) {
                    stack[top - 1] = joined(step, stack[top - 1], last);
                }
            }
            return 0;
        }

        private int toldAs(int name) {
            return name >= 0 && name < named.length ? named[name] : 0;
        }

        private static int joined(int step, int left, int right) {
            switch (step) {
                case '|': return bit(left != 0 || right != 0);
                case '&': return bit(left != 0 && right != 0);
                case '<': return bit(left < right);
                case '=': return bit(left == right);
                case '>': return bit(left > right);
                case '+': return left + right;
                case '-': return left - right;
                case '*': return left * right;
                case '/': return right == 0 ? 0 : left / right;
                default: return right == 0 ? 0 : left % right;
            }
        }
    }

    /**
     * THE TAPE, and how it is read. A part answers whether it was found; where it was not,
     * place stays at the byte with which no TEXT goes on.
     */
    private static final class Reader {
        static final int LETTERS = 120, OPEN = 6, DIGITS = 4;
        static final String NAMES = "wkdhbp";

        final int[] letters = new int[LETTERS];
        int length;
        int place;
        /** A text is read in here first, so that one with a FAULT leaves THE LAW as it is. */
        private Program to = new Program();

        boolean add(int letter) {
            if (length >= LETTERS) {
                return false;
            }
            letters[length] = letter;
            length++;
            return true;
        }

        /** Gives the text that was read for an old one, whose room serves the next text. */
        Program exchanged(Program old) {
            Program read = to;
            to = old;
            return read;
        }

        boolean isText() {
            to.size = 0;
            place = 0;
            for (int lines = 0; lines <= LETTERS; lines++) {
                if (!line()) {
                    return false;
                }
                if (place == length) {
                    return true;
                }
                if (!take(';')) {
                    return false;
                }
            }
            return false;
        }

        private int next() {
            return place >= 0 && place < length ? letters[place] : -1;
        }

        private boolean take(int letter) {
            if (next() != letter) {
                return false;
            }
            place++;
            return true;
        }

        private boolean line() {
            if (!either(0)) {
                return false;
            }
            int check = to.size;
            boolean checked = take('?');
            if (checked) {
                to.add(Program.CHECK, 0);
                if (!either(0)) {
                    return false;
                }
            }
            to.add(Program.END, 0);
            if (checked && check < Program.STEPS) {
                to.args[check] = to.size;
            }
            return true;
        }

        private boolean either(int open) {
            if (!both(open)) {
                return false;
            }
            for (int i = 0; i < LETTERS && take('|'); i++) {
                if (!both(open)) {
                    return false;
                }
                to.add('|', 0);
            }
            return true;
        }

        private boolean both(int open) {
            if (!compared(open)) {
                return false;
            }
            for (int i = 0; i < LETTERS && take('&'); i++) {
                if (!compared(open)) {
                    return false;
                }
                to.add('&', 0);
            }
            return true;
        }

        private boolean compared(int open) {
            if (!sum(open)) {
                return false;
            }
            int sign = next();
            if (sign != '<' && sign != '=' && sign != '>') {
                return true;
            }
            place++;
            if (!sum(open)) {
                return false;
            }
            to.add(sign, 0);
            return true;
        }

        private boolean sum(int open) {
            if (!product(open)) {
                return false;
            }
            int sign = next();
            for (int i = 0; i < LETTERS && (sign == '+' || sign == '-'); i++) {
                place++;
                if (!product(open)) {
                    return false;
                }
                to.add(sign, 0);
                sign = next();
            }
            return true;
        }

        private boolean product(int open) {
            if (!one(open)) {
                return false;
            }
            int sign = next();
            for (int i = 0; i < LETTERS && (sign == '*' || sign == '/' || sign == '%'); i++) {
                place++;
                if (!one(open)) {
                    return false;
                }
                to.add(sign, 0);
                sign = next();
            }
            return true;
        }

        private boolean one(int open) {
            int sign = next();
            if (sign == '(' || sign == '!' || sign == '-') {
                return opened(sign, open);
            }
            if (sign >= '0' && sign <= '9') {
                number();
                return true;
            }
            int name = sign < 0 ? -1 : NAMES.indexOf((char) sign);
            if (name < 0) {
                return false;
            }
            place++;
            to.add(Program.NAME, name);
            return true;
        }

        private boolean opened(int sign, int open) {
            if (open >= OPEN) {
                return false;
            }
            place++;
            if (sign == '(') {
                return either(open + 1) && take(')');
            }
            if (!one(open + 1)) {
                return false;
            }
            to.add(sign == '-' ? Program.MINUS : sign, 0);
            return true;
        }

        private void number() {
            int v = 0;
            for (int i = 0; i < DIGITS && next() >= '0' && next() <= '9'; i++) {
                v = v * 10 + next() - '0';
                place++;
            }
            to.add(Program.NUMBER, v);
        }
    }

    /** What the BELLS sound on a day at an hour. */
    private static final class Sounds {
        private final Foundry foundry;
        private final int[] offs = new int[BELLS];
        private final int[] pitches = new int[BELLS];

        Sounds(Foundry foundry) {
            this.foundry = foundry;
        }

        int bellsOff(int day, int hour) {
            foundry.fillOffs(offs, day, hour, 0);
            return countOff(offs);
        }

        int firstOff(int day, int hour) {
            foundry.fillOffs(offs, day, hour, 0);
            for (int b = 0; b < BELLS; b++) {
                if (offs[b] != 0) {
                    return b;
                }
            }
            return NOT;
        }

        int vowsBroken(int day) {
            int n = 0;
            for (int v = 0; v < foundry.vows; v++) {
                n += bit(!foundry.isKept(v, day));
            }
            return n;
        }

        int worstVow(int day, int hour) {
            int worst = NOT;
            int most = -1;
            for (int v = 0; v < foundry.vows; v++) {
                int off = Math.abs(foundry.offByVow(v, day, hour));
                if (off > most) {
                    most = off;
                    worst = v;
                }
            }
            return worst;
        }

        void strikeAll(int day, int hour) {
            foundry.fillOffs(offs, day, hour, 0);
            for (int b = 0; b < BELLS; b++) {
                pitches[b] = foundry.tone[b] + offs[b];
            }
        }

        /** BEATS of two BELLS as they were struck last; the lesser first. */
        int beatsOf(int lesser, int other) {
            int tune = foundry.tune[lesser];
            if (tune < 1) {
                return 0;
            }
            int rest = Math.abs(pitches[lesser] - pitches[other]) % tune;
            return Math.min(rest, tune - rest);
        }

        int purePairs(int set) {
            int n = 0;
            for (int a = 0; a < foundry.bells; a++) {
                for (int b = a + 1; b < foundry.bells; b++) {
                    n += bit(isPairOf(set, a, b) && beatsOf(a, b) == 0);
                }
            }
            return n;
        }

        int harshestPair(int set) {
            int pair = NOT;
            int most = -1;
            for (int a = 0; a < foundry.bells; a++) {
                for (int b = a + 1; b < foundry.bells; b++) {
                    if (isPairOf(set, a, b) && beatsOf(a, b) > most) {
                        most = beatsOf(a, b);
                        pair = 10 * a + b;
                    }
                }
            }
            return pair;
        }

        private static boolean isPairOf(int set, int a, int b) {
            return (set >> a & 1) == 1 && (set >> b & 1) == 1;
        }

        int firstPureDay(int bell, int from, int hour) {
            for (int day = from; day <= LAST_DAY; day++) {
                if (foundry.offOf(bell, day, hour) == 0) {
                    return day;
                }
            }
            return NOT;
        }

        int daysOff(int bell, int from, int hour, int n) {
            int last = Math.min(from + n - 1, LAST_DAY);
            int off = 0;
            for (int day = from; day <= last; day++) {
                off += bit(foundry.offOf(bell, day, hour) != 0);
            }
            return off;
        }

        int faultOf(int one, int day, int hour) {
            int others = 0;
            for (int v = 0; v < foundry.vows; v++) {
                if (foundry.by[v] != one) {
                    others |= 1 << v;
                }
            }
            foundry.fillOffs(offs, day, hour, others);
            int sum = 0;
            for (int b = 0; b < BELLS; b++) {
                sum += Math.abs(offs[b]);
            }
            return sum;
        }

        int mostAtFault(int day, int hour) {
            int who = 0;
            int most = -1;
            for (int one = 0; one < ONES; one++) {
                int fault = faultOf(one, day, hour);
                if (fault > most) {
                    most = fault;
                    who = one;
                }
            }
            return who;
        }

        /** BELLS that are not there are never OFF, so all places are counted. */
        static int countOff(int[] offs) {
            int n = 0;
            for (int b = 0; b < BELLS; b++) {
                n += bit(offs[b] != 0);
            }
            return n;
        }
    }

    /**
     * Reads sounds back to the VOWS. What one VOW does never changes what another does, so
     * each BELL's sets are gone through by themselves, least first.
     */
    private static final class Listener {
        private final Foundry foundry;
        /** By how much more each VOW puts its BELL OFF, if it is in the set that is tried. */
        private final int[] more = new int[VOWS];
        private final int[] seen = new int[2 * VOWS * MOST_OFF + 1];
        private final int[] left = new int[Shelf.PLACES];
        private final int[] due = new int[Shelf.PLACES];
        /** What a VOW does so many days behind its BROKEN. */
        private final int[] after = new int[LAST_DAY + 1];
        private int sets;
        private int unlike;
        private int inAll;
        private int inAny;
        private int least;

        Listener(Foundry foundry) {
            this.foundry = foundry;
        }

        private int moreBy(int set) {
            int sum = 0;
            for (int v = 0; v < VOWS; v++) {
                if ((set >> v & 1) == 1) {
                    sum += more[v];
                }
            }
            return sum;
        }

        /** The next greater set within all; behind all comes the empty one. */
        private static int nextSet(int set, int all) {
            return set - all & all;
        }

        int winBack(int day, int hour) {
            int won = 0;
            for (int b = 0; b < foundry.bells; b++) {
                int set = winBackIn(b, day, hour);
                if (set < 0) {
                    return NOT;
                }
                won |= set;
            }
            return won;
        }

        private int winBackIn(int bell, int day, int hour) {
            int all = 0;
            for (int v = 0; v < foundry.vows; v++) {
                if (foundry.bellOf[v] == bell && !foundry.isKept(v, day)) {
                    all |= 1 << v;
                    more[v] = foundry.offIf(v, bell, KEPT, hour) - foundry.offByVow(v, day, hour);
                }
            }
            int off = foundry.offOf(bell, day, hour);
            int best = NOT;
            int fewest = VOWS + 1;
            int set = 0;
            for (int i = 0; i < 1 << Integer.bitCount(all); i++) {
                int n = Integer.bitCount(set);
                if (n < fewest && off + moreBy(set) == 0) {
                    fewest = n;
                    best = set;
                }
                set = nextSet(set, all);
            }
            return best;
        }

        int unheard(int hour, int d) {
            int set = 0;
            for (int v = 0; v < foundry.vows; v++) {
                int bell = foundry.bellOf[v];
                if (foundry.offIf(v, bell, KEPT, hour) == foundry.offIf(v, bell, d, hour)) {
                    set |= 1 << v;
                }
            }
            return set;
        }

        /** Goes through all sets of a BELL's VOWS; if it is told, only those that make the PITCH count. */
        void hear(int bell, int hour, int d, boolean told, int pitch) {
            int all = foundry.vowsIn(bell);
            int kept = 0;
            for (int v = 0; v < foundry.vows; v++) {
                if ((all >> v & 1) == 1) {
                    int off = foundry.offIf(v, bell, KEPT, hour);
                    kept += off;
                    more[v] = foundry.offIf(v, bell, d, hour) - off;
                }
            }
            Arrays.fill(seen, 0);
            sets = 0;
            unlike = 0;
            inAll = all;
            inAny = 0;
            int set = 0;
            for (int i = 0; i < 1 << Integer.bitCount(all); i++) {
                int off = kept + moreBy(set);
                if (!told || foundry.tone[bell] + off == pitch) {
                    note(set, off);
                }
                set = nextSet(set, all);
            }
        }

        private void note(int set, int off) {
            if (sets == 0) {
                least = set;
            }
            sets++;
            inAll &= set;
            inAny |= set;
            int place = off + VOWS * MOST_OFF;
            if (place >= 0 && place < seen.length && seen[place] == 0) {
                seen[place] = 1;
                unlike++;
            }
        }

        int toldOf(int bell, int what) {
            if (what == 0) {
                return sets;
            }
            if (sets == 0) {
                return NOT;
            }
            switch (what) {
                case 1: return inAll;
                case 2: return foundry.vowsIn(bell) & ~inAny;
                default: return least;
            }
        }

        int nextToStrike(Shelf told, int hour, int d, int what) {
            int all = 1;
            int bell = NOT;
            int most = NOT;
            for (int b = 0; b < foundry.bells; b++) {
                int pitch = b < told.size ? (int) told.cells[b] : -1;
                hear(b, hour, d, pitch != -1, pitch);
                all *= sets;
                if (unlike > most) {
                    most = unlike;
                    bell = b;
                }
            }
            if (what == 0) {
                return all;
            }
            if (all == 0) {
                return NOT;
            }
            return what == 1 ? bell : most;
        }

        int firstNotSo(Shelf told, int bell, int day, int hour) {
            for (int i = 0; i < told.size; i++) {
                if (day + i > LAST_DAY
                        || foundry.tone[bell] + foundry.offOf(bell, day + i, hour) != told.cells[i]) {
                    return i;
                }
            }
            return NOT;
        }

        int sinceWhen(Shelf told, int bell, int day, int hour, int what) {
            if (day + told.size - 1 > LAST_DAY) {
                return what == 0 ? NOT : 0;
            }
            int first = NOT;
            int n = 0;
            fillLeft(told, bell, day, hour);
            for (int v = 0; v < foundry.vows; v++) {
                if (foundry.bellOf[v] != bell) {
                    continue;
                }
                fillDue(told.size, v, day, hour);
                fillAfter(v, day + told.size - 1, hour);
                int kept = leadKept(told.size, foundry.offIf(v, bell, KEPT, hour));
                for (int since = 0; since <= NEVER; since++) {
                    if (isSince(since, day, told.size, kept)) {
                        n++;
                        first = first < 0 ? 1000 * v + since : first;
                    }
                }
            }
            return what == 0 ? first : n;
        }

        /** What is left of each PITCH of the ROW, the VOWS being as they are. */
        private void fillLeft(Shelf told, int bell, int day, int hour) {
            for (int i = 0; i < told.size; i++) {
                left[i] = (int) told.cells[i] - foundry.tone[bell] - foundry.offOf(bell, day + i, hour);
            }
        }

        /** What a VOW itself must do on each day of the ROW, the others being as they are. */
        private void fillDue(int size, int vow, int day, int hour) {
            for (int i = 0; i < size; i++) {
                due[i] = left[i] + foundry.offByVow(vow, day + i, hour);
            }
        }

        private void fillAfter(int vow, int last, int hour) {
            for (int d = 0; d <= last && d <= LAST_DAY; d++) {
                after[d] = foundry.offIf(vow, foundry.bellOf[vow], d, hour);
            }
        }

        /** On how many days of the ROW, from its first on, the VOW may have been KEPT. */
        private int leadKept(int size, int off) {
            int n = 0;
            while (n < size && due[n] == off) {
                n++;
            }
            return n;
        }

        private boolean isSince(int since, int day, int size, int kept) {
            int first = Math.min(Math.max(since - day, 0), size);
            if (first > kept) {
                return false;
            }
            for (int i = first; i < size; i++) {
                if (due[i] != after[day + i - since]) {
                    return false;
                }
            }
            return true;
        }
    }

    /** VOWS cast into other BELLS, and years by draws. */
    private static final class Caster {
        static final int MELTED = 5;
        private static final int DRAW_HOUR = 12;

        private final Foundry foundry;
        private final int[] offs = new int[BELLS];
        private final int[] trial = new int[BELLS];
        private final int[] sums = new int[BELLS];
        private final int[] since = new int[VOWS];
        private final int[] moved = new int[MELTED];
        /** What the i-th of the moved VOWS does in BELL b, at BELLS * i + b. */
        private final int[] does = new int[MELTED * BELLS];

        Caster(Foundry foundry) {
            this.foundry = foundry;
        }

        int castInto(int vow, int last, int hour, int what) {
            Arrays.fill(sums, 0);
            for (int day = 0; day <= last; day++) {
                foundry.fillOffs(offs, day, hour, 1 << vow);
                int off = Sounds.countOff(offs);
                int brokenDays = foundry.daysBroken(vow, day);
                for (int b = 0; b < foundry.bells; b++) {
                    int with = offs[b] + foundry.offIf(vow, b, brokenDays, hour);
                    sums[b] += off - bit(offs[b] != 0) + bit(with != 0);
                }
            }
            int best = 0;
            for (int b = 1; b < foundry.bells; b++) {
                if (sums[b] < sums[best]) {
                    best = b;
                }
            }
            return what == 0 ? best : sums[best];
        }

        int meltDown(int bell, int day, int hour, int vow) {
            int n = moveAll(bell, day, hour);
            foundry.fillOffs(offs, day, hour, foundry.vowsIn(bell));
            int ways = 1;
            for (int i = 0; i < n; i++) {
                ways *= foundry.bells - 1;
            }
            int best = 0;
            int fewest = BELLS + 1;
            for (int way = 0; way < ways; way++) {
                int off = offAfter(way, n, bell);
                if (off < fewest) {
                    fewest = off;
                    best = way;
                }
            }
            return vow < 0 ? fewest : bellIn(best, n, bell, vow);
        }

        /** How many VOWS leave the BELL; notes which, and what each would do elsewhere. */
        private int moveAll(int bell, int day, int hour) {
            int n = 0;
            for (int v = 0; v < foundry.vows && n < MELTED; v++) {
                if (foundry.bellOf[v] == bell) {
                    moved[n] = v;
                    for (int b = 0; b < foundry.bells; b++) {
                        does[BELLS * n + b] = foundry.offIf(v, b, foundry.daysBroken(v, day), hour);
                    }
                    n++;
                }
            }
            return n;
        }

        /**
         * A way is a number whose digits, to the base of the other BELLS, are where the VOWS go:
         * the last VOW's is the lowest, so that the ways come by VOWS, then BELLS.
         */
        private int offAfter(int way, int n, int bell) {
            int others = foundry.bells - 1;
            if (others < 1) {
                return BELLS;
            }
            System.arraycopy(offs, 0, trial, 0, BELLS);
            int rest = way;
            for (int i = n - 1; i >= 0; i--) {
                int to = otherBell(rest % others, bell);
                trial[to] += does[BELLS * i + to];
                rest /= others;
            }
            return Sounds.countOff(trial);
        }

        private int bellIn(int way, int n, int bell, int vow) {
            int others = foundry.bells - 1;
            if (others < 1) {
                return NOT;
            }
            int rest = way;
            for (int i = n - 1; i >= 0; i--) {
                if (moved[i] == vow) {
                    return otherBell(rest % others, bell);
                }
                rest /= others;
            }
            return NOT;
        }

        private static int otherBell(int digit, int bell) {
            return digit < bell ? digit : digit + 1;
        }

        int bestExchange(int day, int hour) {
            foundry.fillOffs(offs, day, hour, 0);
            int fewest = Sounds.countOff(offs);
            int best = NOT;
            for (int v = 0; v < foundry.vows; v++) {
                for (int u = v + 1; u < foundry.vows; u++) {
                    if (foundry.bellOf[v] == foundry.bellOf[u]) {
                        continue;
                    }
                    System.arraycopy(offs, 0, trial, 0, BELLS);
                    move(v, foundry.bellOf[u], day, hour);
                    move(u, foundry.bellOf[v], day, hour);
                    int off = Sounds.countOff(trial);
                    if (off < fewest) {
                        fewest = off;
                        best = 20 * v + u;
                    }
                }
            }
            return best;
        }

        private void move(int vow, int to, int day, int hour) {
            int brokenDays = foundry.daysBroken(vow, day);
            int from = foundry.bellOf[vow];
            trial[from] -= foundry.offIf(vow, from, brokenDays, hour);
            trial[to] += foundry.offIf(vow, to, brokenDays, hour);
        }

        int drawYears(int seed, int years, int days, int from, int what) {
            int z = seed;
            int last = from + days - 1;
            int n = 0;
            for (int year = 0; year < years; year++) {
                Arrays.fill(since, NEVER);
                for (int day = from; day <= last; day++) {
                    for (int v = 0; v < foundry.vows; v++) {
                        z = z * 1103515245 + 12345;
                        if ((z >>> 8) % 12 < foundry.faithless) {
                            since[v] = since[v] == NEVER ? day : NEVER;
                        }
                    }
                }
                n += what == 0 ? drawnOff(last) : drawnBroken();
            }
            return n;
        }

        private int drawnOff(int last) {
            Arrays.fill(trial, 0);
            for (int v = 0; v < foundry.vows; v++) {
                int bell = foundry.bellOf[v];
                int brokenDays = since[v] == NEVER ? KEPT : last - since[v];
                trial[bell] += foundry.offIf(v, bell, brokenDays, DRAW_HOUR);
            }
            return Sounds.countOff(trial);
        }

        private int drawnBroken() {
            int n = 0;
            for (int v = 0; v < foundry.vows; v++) {
                n += bit(since[v] != NEVER);
            }
            return n;
        }
    }

    /** TODAY, what has been done, and AN IMAGE of both. */
    private static final class Deeds {
        static final int LED = 4;
        private static final int BREAKS = 0, KEEPS = 1, RINGS = 2, RINGS_OFF = 3;

        private final Foundry foundry;
        final int[] done = new int[LED];
        int today;
        boolean hasImage;
        private final int[] imageDone = new int[LED];
        private final int[] imageBroken = new int[VOWS];
        private final int[] imageAgain = new int[VOWS];
        private int imageToday;
        private int imageVows;

        Deeds(Foundry foundry) {
            this.foundry = foundry;
        }

        int breakVow(int vow) {
            if (!foundry.isKept(vow, today)) {
                return 0;
            }
            foundry.broken[vow] = today;
            foundry.again[vow] = NEVER;
            done[BREAKS]++;
            return 1;
        }

        int keepAgain(int vow) {
            if (foundry.isKept(vow, today)) {
                return 0;
            }
            if (foundry.broken[vow] == today) {
                return STATE;
            }
            foundry.again[vow] = today;
            done[KEEPS]++;
            return 1;
        }

        int ringBell(int bell, int hour) {
            int off = foundry.offOf(bell, today, hour);
            done[RINGS]++;
            done[RINGS_OFF] += bit(off != 0);
            return foundry.tone[bell] + off;
        }

        void keepImage() {
            hasImage = true;
            imageToday = today;
            imageVows = foundry.vows;
            System.arraycopy(done, 0, imageDone, 0, LED);
            System.arraycopy(foundry.broken, 0, imageBroken, 0, VOWS);
            System.arraycopy(foundry.again, 0, imageAgain, 0, VOWS);
        }

        void layBack() {
            today = imageToday;
            System.arraycopy(imageDone, 0, done, 0, LED);
            for (int v = 0; v < imageVows && v < VOWS; v++) {
                foundry.broken[v] = imageBroken[v];
                foundry.again[v] = imageAgain[v];
            }
        }
    }

    /** CHANGES in their order: those that may be UNDONE, and behind them those UNDONE. */
    private static final class Changes {
        static final int MOST = 40;

        private final int[] number = new int[MOST];
        private final int[] what = new int[MOST];
        private final int[] was = new int[MOST];
        private final int[] became = new int[MOST];
        int done;
        int known;

        void add(int ofNumber, int ofWhat, int before, int now) {
            if (done >= MOST) {
                forgetFirst();
            }
            number[done] = ofNumber;
            what[done] = ofWhat;
            was[done] = before;
            became[done] = now;
            done++;
            known = done;
        }

        private void forgetFirst() {
            System.arraycopy(number, 1, number, 0, MOST - 1);
            System.arraycopy(what, 1, what, 0, MOST - 1);
            System.arraycopy(was, 1, was, 0, MOST - 1);
            System.arraycopy(became, 1, became, 0, MOST - 1);
            done = MOST - 1;
        }

        void stepBack(Foundry foundry) {
            if (done > 0) {
                done--;
                foundry.setNumber(number[done], what[done], was[done]);
            }
        }

        void stepOn(Foundry foundry) {
            if (done < known) {
                foundry.setNumber(number[done], what[done], became[done]);
                done++;
            }
        }
    }

    /** BODIES of KINDS, and the bodies of acts that run in them. */
    private static final class Acts {
        static final int KINDS = 8, BODIES = 50, ACTS = 4, TRACED = 24;
        private static final int SOUNDS = 0, KEEPS = 1, CASTS = 2, TELLS = 3;
        /** No act goes this deep: the bodies of the deepest KIND, CHILD, stand open six at a time. */
        private static final int DEEPEST = 40;
        private static final int[] ABOVE = {-1, 0, 0, 2, 1, 3, 0, 4};
        /** The body of each KIND for each act; 0: it has none of its own. */
        private static final int[] OWN = {
            1, 10, 11, 2,
            20, 0, 0, 0,
            0, 30, 0, 0,
            0, 41, 40, 0,
            0, 0, 50, 0,
            0, 0, 0, 60,
            70, 0, 0, 0,
            0, 80, 0, 81,
        };

        final int[] kinds = new int[BODIES];
        final int[] trace = new int[TRACED];
        int bodies;
        int ran;
        private int acting;

        boolean hasBody(int body) {
            return body >= 0 && body < bodies;
        }

        int addBody(int kind) {
            if (bodies >= BODIES) {
                return FULL;
            }
            kinds[bodies] = kind;
            return bodies++;
        }

        int kept() {
            return Math.min(ran, TRACED);
        }

        boolean isUnder(int body, int kind) {
            int k = hasBody(body) ? kinds[body] : -1;
            for (int i = 0; i < KINDS && k >= 0 && k < KINDS; i++) {
                if (k == kind) {
                    return true;
                }
                k = ABOVE[k];
            }
            return false;
        }

        int start(int body, int act, int x) {
            ran = 0;
            if (!hasBody(body) || act < 0 || act >= ACTS) {
                return 0;
            }
            acting = body;
            return own(act, x, 0);
        }

        private int own(int act, int x, int depth) {
            return from(kinds[acting], act, x, depth);
        }

        /** Runs the body of the first KIND from this one upward that has one. */
        private int from(int kind, int act, int x, int depth) {
            int k = kind;
            for (int i = 0; i < KINDS && k > 0 && k < KINDS && OWN[ACTS * k + act] == 0; i++) {
                k = ABOVE[k];
            }
            if (depth >= DEEPEST || k < 0 || k >= KINDS) {
                return 0;
            }
            int body = OWN[ACTS * k + act];
            if (ran < TRACED) {
                trace[ran] = body;
            }
            ran++;
            return run(body, ABOVE[k], x, depth + 1);
        }

        private int run(int body, int above, int x, int depth) {
            switch (body) {
                case 1: return x + acting;
                case 2: return own(KEEPS, x, depth) - own(CASTS, 1, depth);
                case 10: return own(SOUNDS, x, depth) * 2;
                case 11: return x ^ acting;
                case 20: return from(above, SOUNDS, x, depth) + 3;
                case 30: return -from(above, KEEPS, x, depth);
                case 40: return from(above, CASTS, x, depth) * 3;
                case 41: return from(above, KEEPS, x + 1, depth);
                case 50: return from(above, CASTS, x, depth) - own(SOUNDS, 2, depth);
                case 60: return from(above, TELLS, x, depth) ^ 5;
                case 70: return from(above, SOUNDS, x, depth) * 2;
                case 80: return from(above, KEEPS, x, depth) + own(CASTS, 2, depth);
                case 81: return from(above, TELLS, x, depth) - 1;
                default: return 0;
            }
        }
    }

    /** A SHELF: nothing, a SOUND or a ROW. All sorts of ROW lie in longs, narrowed as they come. */
    private static final class Shelf {
        static final int BYTES = 0, SHORTS = 1, INTS = 2, LONGS = 3, BOOLEANS = 4;
        static final int PLACES = 60;
        private static final int NO_ROW = -1, NO_BODY = -1;

        final long[] cells = new long[PLACES];
        int body = NO_BODY;
        int sort = NO_ROW;
        int size;

        boolean isEmpty() {
            return body == NO_BODY && sort == NO_ROW;
        }

        boolean isRow() {
            return sort != NO_ROW;
        }

        boolean isRowOf(int ofSort) {
            return isRow() && sort == ofSort;
        }

        boolean hasPlaces(int i, int n) {
            return i >= 0 && n >= 0 && i <= size && n <= size - i;
        }

        int refusalFor(int ofSort) {
            if (isEmpty()) {
                return NOTHING;
            }
            return isRowOf(ofSort) ? 0 : OTHER;
        }

        int refusalAt(int i) {
            if (isEmpty()) {
                return NOTHING;
            }
            if (!isRow()) {
                return OTHER;
            }
            return hasPlaces(i, 1) ? 0 : NO_PLACE;
        }

        void clear() {
            body = NO_BODY;
            sort = NO_ROW;
            size = 0;
        }

        void hold(int number) {
            clear();
            body = number;
        }

        void lay(int ofSort, int n) {
            clear();
            sort = ofSort;
            size = n;
            Arrays.fill(cells, 0L);
        }

        long narrowed(long v) {
            switch (sort) {
                case BYTES: return (byte) v;
                case SHORTS: return (short) v;
                case INTS: return (int) v;
                case LONGS: return v;
                default: return bit(v != 0);
            }
        }
    }
}
