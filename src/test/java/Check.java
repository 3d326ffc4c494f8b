import java.util.NoSuchElementException;

/** Counts answers that are not as due, and has short ways to tell texts and to look at the ROW. */
final class Check {
    private final String name;
    private int wrong = 0;
    private int looked = 0;

    Check(String name) {
        this.name = name;
    }

    void due(String what, long got, long want) {
        looked++;
        if (got != want) {
            wrong++;
            System.out.println(name + ": " + what + " answered " + got + ", due is " + want);
        }
    }

    void due(String what, boolean got, boolean want) {
        due(what, got ? 1 : 0, want ? 1 : 0);
    }

    void due(String what, String got, String want) {
        looked++;
        if (!got.equals(want)) {
            wrong++;
            System.out.println(name + ": " + what + " answered " + got + ", due is " + want);
        }
    }

    /** The ROW has just these numbers. */
    void row(String what, WellsNotEven x, int... want) {
        StringBuilder due = new StringBuilder();
        for (int v : want) {
            due.append(v).append(' ');
        }
        due(what + ", the row", rowOf(x), due.toString());
    }

    static String rowOf(WellsNotEven x) {
        StringBuilder got = new StringBuilder();
        int n = x.count(7);
        for (int i = 0; i < n; i++) {
            got.append(x.row(i)).append(' ');
        }
        try {
            x.row(n);
            got.append("and more");
        } catch (NoSuchElementException e) {
            // As due.
        }
        return got.toString();
    }

    /** DEPTHS of all FARMS. */
    void depths(String what, WellsNotEven x, int... want) {
        StringBuilder due = new StringBuilder();
        StringBuilder got = new StringBuilder();
        for (int v : want) {
            due.append(v).append(' ');
        }
        for (int f = 0; f < x.count(0); f++) {
            got.append(x.farm(f, 0)).append(' ');
        }
        due(what + ", the depths", got.toString(), due.toString());
    }

    void noRow(String what, WellsNotEven x, int i) {
        boolean thrown = false;
        try {
            x.row(i);
        } catch (NoSuchElementException e) {
            thrown = true;
        }
        due(what + ": row(" + i + ") throws", thrown, true);
    }

    void noFarm(String what, WellsNotEven x, int f, int of) {
        boolean thrown = false;
        try {
            x.farm(f, of);
        } catch (NoSuchElementException e) {
            thrown = true;
        }
        due(what + ": farm(" + f + ", " + of + ") throws", thrown, true);
    }

    /** Puts signs behind THE TEXT. */
    static void tell(WellsNotEven x, String signs) {
        int length = x.count(8);
        for (int i = 0; i < signs.length(); i += 4) {
            int v = 0;
            for (int k = i; k < i + 4; k++) {
                v = v << 8 | (k < signs.length() ? signs.charAt(k) & 255 : 0);
            }
            x.sign(v);
        }
        x.end(length + signs.length());
    }

    static int county(WellsNotEven x, String text) {
        x.end(0);
        tell(x, text);
        return x.county();
    }

    static int night(WellsNotEven x, String text) {
        x.end(0);
        tell(x, text);
        return x.night();
    }

    static WellsNotEven of(String county) {
        WellsNotEven x = new WellsNotEven();
        county(x, county);
        return x;
    }

    void finish() {
        System.out.println(name + ": " + looked + " looked at, " + wrong + " wrong");
        if (wrong != 0 || looked == 0) {
            System.exit(1);
        }
    }
}
