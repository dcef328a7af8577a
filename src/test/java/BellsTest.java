/** Promises 1 to 6: a new object, bells, vows, vows from rows, mending. */
public final class BellsTest {
    private static final Check c = new Check();

    public static void main(String[] args) {
        newObject();
        bells();
        vows();
        vowsFromRows();
        mending();
        numbers();
        c.end();
    }

    private static CastWithVows twoBells() {
        CastWithVows x = new CastWithVows();
        x.bell(40);
        x.bell(50);
        return x;
    }

    private static void newObject() {
        c.promise("promise 1");
        CastWithVows x = new CastWithVows();
        for (int what = 0; what <= 5; what++) {
            c.due("count(" + what + ")", x.count(what), 0);
        }
        c.due("today", x.of(0, 11), 0);
        c.due("faithless", x.of(0, 7), 1);
        c.due("back", x.back(), CastWithVows.STATE);
        c.due("undo", x.undo(), CastWithVows.STATE);
        c.due("redo", x.redo(), CastWithVows.STATE);
        for (int s = 0; s < 6; s++) {
            c.due("shelf " + s, x.taken(s, 0), -11);
        }
        c.due("a second object is its own", twoBells().count(0) + x.count(0), 2);
        c.due("BAD", CastWithVows.BAD, -1);
        c.due("NOT", CastWithVows.NOT, -2);
        c.due("FULL", CastWithVows.FULL, -3);
        c.due("STATE", CastWithVows.STATE, -5);
        c.due("VOID", CastWithVows.VOID, -2000000000);
    }

    private static void bells() {
        c.promise("promise 2");
        CastWithVows x = new CastWithVows();
        c.due("bell(-1)", x.bell(-1), CastWithVows.BAD);
        c.due("bell(100)", x.bell(100), CastWithVows.BAD);
        for (int i = 0; i < 6; i++) {
            c.due("bell " + i, x.bell(i == 0 ? 0 : 99), i);
        }
        c.due("tone", x.of(0, 0), 0);
        c.due("tone", x.of(5, 0), 99);
        c.due("tune at first", x.of(5, 1), 12);
        c.due("a seventh", x.bell(1), CastWithVows.FULL);
        c.due("BAD ahead of FULL", x.bell(100), CastWithVows.BAD);
        c.due("still six", x.count(0), 6);
    }

    private static void vows() {
        c.promise("promise 3");
        CastWithVows x = new CastWithVows();
        c.due("no bell", x.vow(0, 1), CastWithVows.BAD);
        x.bell(10);
        c.due("bell -1", x.vow(-1, 1), CastWithVows.BAD);
        c.due("bell 1", x.vow(1, 1), CastWithVows.BAD);
        c.due("weight 0", x.vow(0, 0), CastWithVows.BAD);
        c.due("weight 10", x.vow(0, 10), CastWithVows.BAD);
        for (int i = 0; i < 12; i++) {
            c.due("vow " + i, x.vow(0, i % 9 + 1), i);
        }
        c.due("a thirteenth", x.vow(0, 1), CastWithVows.FULL);
        c.due("BAD ahead of FULL", x.vow(1, 1), CastWithVows.BAD);
        int[] first = {0, 9, 0, 999, 999};
        for (int what = 2; what <= 6; what++) {
            c.due("of(8, " + what + ") at first", x.of(8, what), first[what - 2]);
        }
    }

    private static void vowsFromRows() {
        c.promise("promise 4");
        CastWithVows x = twoBells();
        c.due("shelf -1", x.vows(-1, 0, 1), CastWithVows.BAD);
        c.due("shelf 6", x.vows(6, 0, 1), CastWithVows.BAD);
        c.due("n 0", x.vows(0, 0, 0), CastWithVows.BAD);
        c.due("n 13", x.vows(0, 0, 13), CastWithVows.BAD);
        c.due("the row is missing", x.vows(0, 0, 3), 0);
        x.body(0);
        x.keep(1, 0);
        c.due("a sound", x.vows(1, 0, 3), -12);
        x.row(1, 1, 9);
        c.due("a row of shorts", x.vows(1, 0, 3), -12);
        Check.lay(x, 0, 0, 1, 9, 5, 0, 1, 0, 1, 2);
        c.due("two whole threes", x.vows(0, 0, 12), 2);
        c.due("bell", x.of(0, 2), 1);
        c.due("weight", x.of(0, 3), 9);
        c.due("by", x.of(0, 4), 5);
        c.due("broken", x.of(0, 5), 999);
        c.due("n of them only", x.vows(0, 0, 1), 1);
        c.due("from a place on", x.vows(0, 3, 2), 1);
        c.due("behind the end", x.vows(0, 8, 1), 0);
        c.due("far behind the end", x.vows(0, Integer.MAX_VALUE, 12), 0);
        c.due("ahead of the start", x.vows(0, -1, 1), 0);
        c.due("far ahead of the start", x.vows(0, Integer.MIN_VALUE, 12), 0);
        Check.lay(x, 0, 0, 1, 1, 1, 1, 10, 0, 0, 1, 0);
        c.due("a weight that is not so", x.vows(0, 0, 3), 1);
        Check.lay(x, 0, 0, 2, 1, 1);
        c.due("a bell that is not there", x.vows(0, 0, 1), 0);
        Check.lay(x, 0, 0, 0, 1, 6);
        c.due("nobody's", x.vows(0, 0, 1), 0);
        Check.lay(x, 0, 0, 0, 1, -1);
        c.due("nobody's either", x.vows(0, 0, 1), 0);
        c.due("five so far", x.count(1), 5);
        c.due("a row that ends with a three", ofExactThrees(), 2);
        x.row(2, 0, 60);
        for (int i = 0; i < 60; i++) {
            x.put(2, i, i % 3 == 1 ? 3 : 0);
        }
        c.due("until full", x.vows(2, 0, 12), 7);
        c.due("full", x.vows(2, 0, 12), 0);
        c.due("they are no changes", x.count(3), 0);
    }

    private static int ofExactThrees() {
        CastWithVows x = twoBells();
        Check.lay(x, 0, 0, 0, 1, 0, 1, 9, 5);
        return x.vows(0, 0, 3);
    }

    private static void mending() {
        c.promise("promise 5");
        CastWithVows x = twoBells();
        x.vow(0, 3);
        int[] least = {0, 1, 0, 1, 0, 0, 0, 0};
        int[] most = {99, 24, 1, 9, 5, 999, 999, 12};
        int[] first = {40, 12, 0, 3, 0, 999, 999, 1};
        for (int what = 0; what <= 7; what++) {
            c.due("below " + what, x.mend(0, what, least[what] - 1), CastWithVows.BAD);
            c.due("above " + what, x.mend(0, what, most[what] + 1), CastWithVows.BAD);
            c.due("least " + what, x.mend(0, what, least[what]), first[what]);
            c.due("most " + what, x.mend(0, what, most[what]), least[what]);
            c.due("now " + what, x.of(0, what), most[what]);
            c.due("the same " + what, x.mend(0, what, most[what]), most[what]);
        }
        c.due("no such bell", x.mend(2, 0, 1), CastWithVows.BAD);
        c.due("no such vow", x.mend(1, 2, 0), CastWithVows.BAD);
        c.due("no such vow", x.mend(-1, 6, 0), CastWithVows.BAD);
        c.due("faithless of 1", x.mend(1, 7, 1), CastWithVows.BAD);
        c.due("what 8", x.mend(0, 8, 1), CastWithVows.BAD);
        c.due("what -1", x.mend(0, -1, 1), CastWithVows.BAD);
        c.due("what 10", x.mend(0, 10, 1), CastWithVows.BAD);
        c.due("the other bell", x.of(1, 0), 50);
    }

    private static void numbers() {
        c.promise("promise 6");
        CastWithVows x = twoBells();
        x.vow(1, 4);
        c.due("kept", x.of(0, 10), 1);
        x.breaks(0);
        c.due("broken", x.of(0, 10), 0);
        x.pass(7);
        c.due("today", x.of(0, 11), 7);
        c.due("today of 1", x.of(1, 11), CastWithVows.BAD);
        c.due("faithless", x.of(0, 7), 1);
        c.due("faithless of 1", x.of(1, 7), CastWithVows.BAD);
        c.due("no vow", x.of(1, 10), CastWithVows.BAD);
        c.due("no vow", x.of(-1, 10), CastWithVows.BAD);
        c.due("no bell", x.of(2, 0), CastWithVows.BAD);
        for (int what : new int[] {-1, 8, 9, 12, Integer.MIN_VALUE}) {
            c.due("what " + what, x.of(0, what), CastWithVows.BAD);
        }
        c.due("bell", x.of(0, 2), 1);
        c.due("broken", x.of(0, 5), 0);
        c.due("again", x.of(0, 6), 999);
        x.mend(0, 6, 7);
        c.due("kept from again on", x.of(0, 10), 1);
        x.mend(0, 5, 7);
        c.due("again is not behind broken", x.of(0, 10), 0);
        x.mend(0, 5, 8);
        c.due("not yet broken", x.of(0, 10), 1);
    }
}
