/** Counts the calls of a test whose answer is not the one that is due. */
final class Check {
    /** Ints that are far from all that the document names, and those at which sums wrap. */
    static final int[] FAR = {
        Integer.MIN_VALUE, Integer.MIN_VALUE + 1, -2000000000, -100000, 100000, Integer.MAX_VALUE - 1, Integer.MAX_VALUE,
    };
    /** What is no day and hour: the nearest of each kind, and the far ones. */
    static final int[] NO_DAY_HOURS = {
        -1, -100, -2300, 24, 99, 124, 1299, 99824, 99899, 99900, 99923, 100000,
        Integer.MIN_VALUE, Integer.MIN_VALUE + 48, Integer.MAX_VALUE,
    };
    /** What is no hour and d. */
    static final int[] NO_HOUR_DAYS = {-1, -99, -100, -2300, 2400, 2401, 2499, 9999, Integer.MIN_VALUE, Integer.MAX_VALUE};

    private int wrong;
    private int asked;
    private String promise = "";

    /** The promise, or the document's own words, that the calls behind this hold. */
    void promise(String name) {
        promise = name;
    }

    void due(String call, long got, long want) {
        asked++;
        if (got != want) {
            wrong++;
            System.out.println(promise + ": " + call + " answered " + got + ", due is " + want);
        }
    }

    void that(String what, boolean holds) {
        due(what, holds ? 1 : 0, 1);
    }

    void end() {
        System.out.println(asked + " answers, " + wrong + " not as due");
        if (wrong != 0) {
            System.exit(1);
        }
    }

    static int feed(CastWithVows x, String text) {
        for (int i = 0; i < text.length(); i++) {
            x.feed(text.charAt(i));
        }
        return x.law();
    }

    /** Lays a ROW of a sort on a SHELF with these elements. */
    static void lay(CastWithVows x, int shelf, int sort, long... elements) {
        x.row(shelf, sort, elements.length);
        for (int i = 0; i < elements.length; i++) {
            x.put(shelf, i, elements[i]);
        }
    }

    /** A foundry with BELLS of these TONES. */
    static CastWithVows bells(int... tones) {
        CastWithVows x = new CastWithVows();
        for (int tone : tones) {
            x.bell(tone);
        }
        return x;
    }
}
