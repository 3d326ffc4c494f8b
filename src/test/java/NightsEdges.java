import java.util.function.Supplier;
import java.util.function.ToIntFunction;

/** The boundary cases that promises 11 to 16 name. */
final class NightsEdges {
    private static final int LEAST = Integer.MIN_VALUE;
    private static final int MOST = Integer.MAX_VALUE;

    private NightsEdges() {
    }

    static void all(Edges e) {
        carry(e);
        nightEmpty(e);
        nightSigns(e);
        nightStops(e);
        nightFaults(e);
        nightTooLong(e);
        week(e);
        weekRefused(e);
        weeks(e);
        undoAsOne(e);
        undoTwenty(e);
        undoKept(e);
        undoForgotten(e);
        even(e);
    }

    private static Supplier<WellsNotEven> withBucket(String county, int holds) {
        return () -> {
            WellsNotEven x = Edges.made(county).get();
            x.law(2, holds);
            return x;
        };
    }

    private static void carry(Edges e) {
        e.says(11, "A BUCKET is carried: DEPTH of the FARM from then.");
        WellsNotEven x = withBucket("9;90;ab", 9).get();
        e.due("its last inches, the other one full then", x.carry(0, 1), 0);
        e.depths("carried", x, 0, 99);
        e.due("back", x.carry(1, 0), 90);
        e.due("both can be undone", x.count(5), 2);
        e.row("no row is told", x, 1);
        e.says(11, "-2: they do not TOUCH;");
        e.alone("they do not", Edges.made("9;9;9;ab"), y -> y.carry(0, 2), -2);
        e.alone("nor is there water: -2 all the same", Edges.made("0;99;9;ac"), y -> y.carry(0, 1), -2);
        e.says(11, "-3: it has not so much, or the other one no room;");
        e.alone("dry", Edges.made("0;9;ab"), y -> y.carry(0, 1), -3);
        e.alone("full", Edges.made("9;99;ab"), y -> y.carry(0, 1), -3);
        e.alone("both", Edges.made("0;99;ab"), y -> y.carry(0, 1), -3);
        e.alone("an inch too few", withBucket("8;9;ab", 9), y -> y.carry(0, 1), -3);
        e.alone("an inch too many", withBucket("9;91;ab", 9), y -> y.carry(0, 1), -3);
        e.says(11, "NONE: none such, like ones.");
        Supplier<WellsNotEven> two = Edges.made("9;9;ab");
        e.alone("none such", two, y -> y.carry(0, 2), -1);
        e.alone("none such", two, y -> y.carry(2, 0), -1);
        e.alone("none such", two, y -> y.carry(-1, 0), -1);
        e.alone("none such", two, y -> y.carry(0, LEAST), -1);
        e.alone("none such", two, y -> y.carry(MOST, 0), -1);
        e.alone("like ones", two, y -> y.carry(1, 1), -1);
        e.alone("like ones, none such", two, y -> y.carry(5, 5), -1);
        e.alone("no farms", WellsNotEven::new, y -> y.carry(0, 1), -1);
    }

    private static void nightEmpty(Edges e) {
        e.says(12, "THE TEXT tells a NIGHT (an empty one: nothing is carried),");
        e.asks("an empty one", Edges.made("9;9;ab"), WellsNotEven::night, 0, 0);
        e.asks("an empty one, no farms", WellsNotEven::new, WellsNotEven::night, 0, 0);
    }

    private static void nightSigns(Edges e) {
        e.says(12, "BUCKETS with ; between: a letter, >, a letter (a .. i, whether there or not),");
        WellsNotEven x = Check.of("9;9;9;9;9;9;9;9;9;ai");
        e.due("a to i and back", Check.night(x, "a>i;i>a;i>a"), 3);
        e.depths("a to i and back", x, 10, 9, 9, 9, 9, 9, 9, 9, 8);
        e.asks("none there: it can't be carried", Edges.made("9;9;ab"), y -> Check.night(y, "i>a"), 0, 1);
        e.asks("the other one is not there", Edges.made("9;9;ab"), y -> Check.night(y, "a>c"), 0, 1);
        e.asks("no farms", WellsNotEven::new, y -> Check.night(y, "a>b;b>a"), 0, 1);
        e.asks("the same again can't be carried", Edges.made("9;9;ab"), y -> Check.night(y, "a>a"), 0, 1);
        e.says(12, "perhaps * and a digit 1 .. 9 (so many times):");
        WellsNotEven y = Check.of("50;0;ab");
        e.due("once", Check.night(y, "a>b*1"), 1);
        e.due("nine times", Check.night(y, "a>b*9"), 9);
        e.due("else once", Check.night(y, "a>b"), 1);
        e.depths("eleven", y, 39, 11);
        e.alone("not 0 times", Edges.made("50;0;ab"), z -> Check.night(z, "a>b*0"), -5);
        e.alone("not 10 times", Edges.made("50;0;ab"), z -> Check.night(z, "a>b*10"), -6);
        e.alone("not so often", Edges.made("50;0;ab"), z -> Check.night(z, "a>b*:"), -5);
    }

    private static void nightStops(Edges e) {
        e.says(12, "they are carried, one by one, till one can't be: how many were; the ROW: 1 if one could not be, else 0.");
        WellsNotEven x = Check.of("9;90;ab");
        e.due("just nine", Check.night(x, "a>b*9"), 9);
        e.row("all could be", x, 0);
        e.depths("just nine", x, 0, 99);
        e.due("one behind another, that could not be ahead", Check.night(x, "b>a;a>b"), 2);
        e.row("one by one", x, 0);
        x.set(0, 0, 8);
        x.set(0, 1, 0);
        e.due("eight of nine", Check.night(x, "a>b*9;b>a*2"), 8);
        e.row("the ninth could not be", x, 1);
        e.depths("nor does any come behind it", x, 0, 8);
        e.due("none", Check.night(x, "a>b;b>a"), 0);
        e.row("none", x, 1);
        e.depths("none", x, 0, 8);
        x.touch(0, 1, -1);
        e.due("they do not touch", Check.night(x, "b>a"), 0);
        e.row("they do not touch", x, 1);
        e.due("two can be undone as one each, and the third", x.count(5), 3);
    }

    private static void fault(Edges e, String text, int p) {
        e.alone("'" + text + "' at " + p, Edges.made("50;50;ab"), x -> Check.night(x, text), -1 - p);
    }

    private static void nightFaults(Edges e) {
        e.says(12, "-1 - p: the sign at p can't stand there (its end, if it ends too early;");
        fault(e, "`>a", 0);
        fault(e, "j>a", 0);
        fault(e, ";", 0);
        fault(e, ">", 0);
        fault(e, "a=b", 1);
        fault(e, "ab", 1);
        fault(e, "a>j", 2);
        fault(e, "a>`", 2);
        fault(e, "a>;", 2);
        fault(e, "a>b>a", 3);
        fault(e, "a>ba", 3);
        fault(e, "a>b/1", 3);
        fault(e, "a>b*/", 4);
        fault(e, "a>b*:", 4);
        fault(e, "a>b*;", 4);
        fault(e, "a>b*2*2", 5);
        fault(e, "a>b*2a", 5);
        fault(e, "a>b;;a>b", 4);
        fault(e, "a>b;5", 4);
        fault(e, "a", 1);
        fault(e, "a>", 2);
        fault(e, "a>b*", 4);
        fault(e, "a>b;", 4);
        fault(e, "a>b*3;", 6);
        fault(e, "a>b;b", 5);
        e.says(12, "nothing is carried then.");
        fault(e, "a>b*9;b>a;x", 10);
        fault(e, "a>b*9;b>a*", 10);
        WellsNotEven x = Check.of("50;50;ab");
        Check.night(x, "a>b;a>");
        e.due("nor can anything be undone", x.count(5), 0);
    }

    private static void nightTooLong(Edges e) {
        e.says(12, "40, if it has more and the first 40 could go on or end);");
        String nine = "a>b;".repeat(9);
        e.due("39 signs", Check.night(Check.of("50;50;ab"), nine + "a>b"), 10);
        String timed = "a>b*1;a>b*1;" + "a>b;".repeat(6) + "a>b";
        e.due("39 signs, with times", Check.night(Check.of("50;50;ab"), timed), 9);
        // A night that ends well has an odd number of signs: none of 40 does.
        fault(e, nine + "a>b;", 40);
        fault(e, timed + "*", 40);
        fault(e, timed + "*1", 40);
        fault(e, timed + "*x", 40);
        fault(e, nine + "a>b;a>b", 40);
        fault(e, nine + "a>b;x", 40);
        fault(e, "a>b;".repeat(20), 40);
        fault(e, nine + "a>ba>b", 39);
        fault(e, timed + ">12345", 39);
        fault(e, nine + "a>x;a>b", 38);
    }

    private static void week(Edges e) {
        e.says(13, "A WEEK goes by, with RAIN (-9 .. 9) on FARMS told as bits: how many pairs are EVEN then; the ROW: what was"
                + " paid, how many inches were lost above 99.");
        WellsNotEven x = Edges.crowd(50);
        e.due("on none", x.week(9, 0), 36);
        e.due("nine farms, eight neighbours each", x.row(0), 72);
        x.week(9, 511);
        e.due("on all", x.count(2), 9 * 59);
        x.week(-9, 511);
        e.due("drought on all", x.count(2), 9 * 50);
        e.due("on the last", x.week(-9, 256), 28);
        e.row("on the last", x, 56, 0);
        e.due("on the last", x.farm(8, 0), 41);
        x.sheet(2, 9, 99, 0);
        x.law(1, 9);
        for (int f = 0; f < 9; f++) {
            x.set(1, f, 9);
        }
        e.due("full", x.week(9, 511), 36);
        e.row("the most that can be paid and lost", x, 648, 162);
        WellsNotEven none = new WellsNotEven();
        e.due("no farms", none.week(-9, 0), 0);
        e.row("no farms", none, 0, 0);
        e.due("it went by", none.count(1), 1);
        WellsNotEven lost = Check.of("90;99+1");
        lost.week(9, 1);
        e.row("99 is not above 99", lost, 0, 1);
    }

    private static void weekRefused(Edges e) {
        e.says(13, "NONE: others, bits of none such.");
        Supplier<WellsNotEven> two = Edges.made("50;50;ab");
        e.alone("10", two, x -> x.week(10, 3), -1);
        e.alone("-10", two, x -> x.week(-10, 3), -1);
        e.alone("the most", two, x -> x.week(MOST, 3), -1);
        e.alone("the least", two, x -> x.week(LEAST, 3), -1);
        e.alone("bit of none such", two, x -> x.week(1, 4), -1);
        e.alone("bits of some such", two, x -> x.week(1, 7), -1);
        e.alone("all bits", two, x -> x.week(1, -1), -1);
        e.alone("the highest bit", two, x -> x.week(1, LEAST), -1);
        e.alone("without rain", two, x -> x.week(0, 4), -1);
        e.alone("no farms", WellsNotEven::new, x -> x.week(0, 1), -1);
        e.alone("a tenth", () -> Edges.crowd(5), x -> x.week(0, 512), -1);
    }

    private static void weeks(Edges e) {
        e.says(14, "n WEEKS (0 .. 50) go by, without RAIN: what was paid in them; the ROW: on how many SUNDAYS it was LAWFUL.");
        e.asks("none", Edges.made("5;5;ab"), x -> x.weeks(0), 0, 0);
        WellsNotEven x = Check.of("0+1;50;ab");
        e.due("49", x.weeks(49), 0);
        e.row("on all", x, 49);
        e.due("the fiftieth is one of 50", Check.of("0+1;50;ab").weeks(50), 2);
        e.due("one", x.weeks(1), 2);
        e.row("on none", x, 0);
        e.due("50", x.weeks(50), 0);
        e.row("on 50", x, 50);
        e.due("WEEKS", x.count(1), 100);
        WellsNotEven paid = Check.of("5;5;ab");
        paid.law(1, 9);
        e.due("on all", paid.weeks(50), 900);
        e.row("on none", paid, 0);
        e.due("no farms", new WellsNotEven().weeks(50), 0);
        e.says(14, "NONE: another n.");
        e.alone("51", Edges.made("5;5;ab"), y -> y.weeks(51), -1);
        e.alone("-1", Edges.made("5;5;ab"), y -> y.weeks(-1), -1);
        e.alone("the most", Edges.made("5;5;ab"), y -> y.weeks(MOST), -1);
        e.alone("the least", Edges.made("5;5;ab"), y -> y.weeks(LEAST), -1);
    }

    private static void undoAsOne(Edges e) {
        e.says(15, "The latest carry(), night(), rests(), week() or weeks()");
        e.says(15, "is undone as one (DEPTHS, WEEKS, what was paid are as ahead of it): how many are left that can be.");
        WellsNotEven x = Check.of("50;50;ab/9");
        x.law(0, 9);
        String[] states = new String[5];
        states[0] = water(x);
        x.carry(0, 1);
        states[1] = water(x);
        Check.night(x, "a>b*9;b>a*2;a>c");
        x.set(0, 0, 20);
        x.set(0, 1, 20);
        x.law(0, 1);
        states[2] = water(x);
        x.rests(40);
        states[3] = water(x);
        x.week(-9, 2);
        states[4] = water(x);
        x.weeks(50);
        for (int i = 4; i >= 0; i--) {
            e.due("left", x.undo(), i);
            e.due("as ahead of call " + i, water(x).equals(states[i]), true);
        }
        e.says(15, "Refused: none.");
        e.alone("all are undone", () -> x, WellsNotEven::undo, -1);
        e.alone("none was", Edges.made("5;5;ab"), WellsNotEven::undo, -1);
        WellsNotEven kept = Check.of("5+1;5;ab/3");
        kept.week(0, 0);
        kept.set(1, 0, 7);
        kept.touch(0, 1, 9);
        kept.law(0, 5);
        kept.seen(1, 1);
        kept.undo();
        e.due("springs, stones, THE LAW, what was seen are not", kept.farm(0, 1) * 1000 + kept.stone(0, 1) * 100
                + kept.law(0, 5) * 10 + kept.count(6), 7951);
    }

    /** DEPTHS, WEEKS, what was paid. */
    private static String water(WellsNotEven x) {
        StringBuilder all = new StringBuilder();
        for (int f = 0; f < x.count(0); f++) {
            all.append(x.farm(f, 0)).append(" paid ").append(x.farm(f, 4)).append("; ");
        }
        return all.append(x.count(1)).toString();
    }

    private static void undoTwenty(Edges e) {
        e.says(15, "(of 20 that are kept, the latest ones;");
        WellsNotEven x = Check.of("50;0;ab");
        for (int i = 1; i <= 19; i++) {
            x.carry(0, 1);
        }
        e.due("19", x.count(5), 19);
        x.carry(0, 1);
        e.due("20", x.count(5), 20);
        x.carry(0, 1);
        e.due("20 of 21", x.count(5), 20);
        for (int i = 19; i >= 0; i--) {
            e.due("left", x.undo(), i);
        }
        e.depths("the first one stays", x, 49, 1);
        e.due("and can't be", x.undo(), -1);
        for (int i = 0; i < 45; i++) {
            x.week(i % 2 == 0 ? 1 : -1, 1);
        }
        for (int i = 19; i >= 0; i--) {
            x.undo();
            e.due("WEEKS", x.count(1), 25 + i);
        }
        e.due("no more", x.undo(), -1);
        WellsNotEven full = Check.of("30;0;0;ab");
        for (int i = 0; i < 20; i++) {
            full.carry(0, 1);
        }
        Check.night(full, "c>a");
        full.rests(5);
        full.weeks(0);
        e.due("calls that are not kept take no place", full.count(5), 20);
        for (int i = 19; i >= 0; i--) {
            e.due("left", full.undo(), i);
        }
        e.depths("nor do they change the first of twenty", full, 30, 0, 0);
    }

    private static void undoKept(Edges e) {
        e.says(15, "such as carried a BUCKET or let a WEEK go by)");
        e.due("a refused carry()", after(x -> x.carry(0, 0)), 0);
        e.due("a carry() without water", after(x -> x.carry(2, 0)), 0);
        e.due("a carry()", after(x -> x.carry(0, 1)), 1);
        e.due("an empty night()", after(WellsNotEven::night), 0);
        e.due("a night() that carries none", after(x -> Check.night(x, "c>a")), 0);
        e.due("a night() that carries one and stops", after(x -> Check.night(x, "a>b;c>a")), 1);
        e.due("a bad night()", after(x -> Check.night(x, "a>b;")), 0);
        e.due("a night() that carries to and fro", after(x -> Check.night(x, "a>b;b>a")), 1);
        e.due("rests() of no round", after(x -> x.rests(0)), 0);
        e.due("rests() in which some carry", after(x -> x.rests(1)), 1);
        e.due("rests() in which nobody does", after(x -> x.law(0, 9) + x.rests(5)), 0);
        e.due("a refused rests()", after(x -> x.rests(41)), 0);
        e.due("a refused week()", after(x -> x.week(10, 0)), 0);
        e.due("a week() that changes no depth", after(x -> x.week(0, 0)), 1);
        e.due("no weeks()", after(x -> x.weeks(0)), 0);
        e.due("one of weeks()", after(x -> x.weeks(1)), 1);
        e.due("weeks()", after(x -> x.weeks(50)), 1);
        e.due("refused weeks()", after(x -> x.weeks(51)), 0);
        e.due("set()", after(x -> x.set(0, 0, 1)), 0);
        e.due("sheet()", after(x -> x.sheet(3, 0, 0, 0)), 0);
    }

    /** How many can be undone after that call. */
    private static int after(ToIntFunction<WellsNotEven> call) {
        WellsNotEven x = Check.of("5;5;0;ab;ac");
        call.applyAsInt(x);
        return x.count(5);
    }

    private static void undoForgotten(Edges e) {
        e.says(15, "(county(), divide() and again() forget them, if they are not refused; an empty county() does not.)");
        e.due("none of these", afterWeek(x -> x.even()), 1);
        e.due("county()", afterWeek(x -> Check.county(x, "ab")), 0);
        e.due("county() of a farm", afterWeek(x -> Check.county(x, "7")), 0);
        e.due("a bad county()", afterWeek(x -> Check.county(x, "7;")), 1);
        e.due("an empty county()", afterWeek(WellsNotEven::county), 1);
        e.due("divide()", afterWeek(x -> x.divide(0, 0)), 0);
        e.due("divide(), refused", afterWeek(x -> x.divide(0, 4)), 1);
        e.due("keep()", afterWeek(x -> Edges.bit(x.keep(1))), 1);
        e.due("again()", afterWeek(x -> Edges.bit(x.again(0))), 0);
        e.due("again() of nothing", afterWeek(x -> Edges.bit(x.again(1))), 1);
        e.due("again() of another number", afterWeek(x -> Edges.bit(x.again(3))), 1);
    }

    private static int afterWeek(ToIntFunction<WellsNotEven> call) {
        WellsNotEven x = Check.of("5;6");
        x.keep(0);
        x.week(0, 0);
        call.applyAsInt(x);
        int left = x.count(5);
        return x.undo() == left - 1 ? left : -9;
    }

    private static void even(Edges e) {
        e.says(16, "Pairs that are EVEN now: how many; the ROW: the first of them (both, the lesser first; none without),"
                + " FARMS (bits) that are in one (0 without; alone then).");
        e.asks("no farms", WellsNotEven::new, WellsNotEven::even, 0, 0);
        e.asks("none touch", Edges.made("5;5"), WellsNotEven::even, 0, 0);
        e.asks("none even", Edges.made("5;6;ab"), WellsNotEven::even, 0, 0);
        e.asks("one, told the other way", Edges.made("1;5;5;cb/9"), WellsNotEven::even, 1, 1, 2, 6);
        e.asks("the first has the lesser farm", Edges.made("4;5;5;4;bc;da"), WellsNotEven::even, 2, 0, 3, 15);
        e.asks("then the lesser other one", Edges.made("4;4;4;4;da;ca"), WellsNotEven::even, 2, 0, 2, 13);
        e.asks("nine", () -> Edges.crowd(99), WellsNotEven::even, 36, 0, 1, 511);
        e.asks("the last two", Edges.made("0;1;2;3;4;5;6;7;7;ih"), WellsNotEven::even, 1, 7, 8, 384);
    }
}
