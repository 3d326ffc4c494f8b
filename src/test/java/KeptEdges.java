import java.util.function.Supplier;

/** The boundary cases that promises 45 to 49 name, and the last call of all. */
final class KeptEdges {
    private static final int LEAST = Integer.MIN_VALUE;
    private static final int MOST = Integer.MAX_VALUE;

    private KeptEdges() {
    }

    static void all(Edges e) {
        divideDepth(e);
        divideTouch(e);
        divideRefused(e);
        keep(e);
        again(e);
        againRefused(e);
        count(e);
        row(e);
        lastCall(e);
    }

    private static void divideDepth(Edges e) {
        e.says(45, "A FARM is divided: a new one has half its DEPTH (cut; the old one the rest), SPRING 0,");
        WellsNotEven x = Check.of("0;1;99+9;98");
        e.due("of 0", x.divide(0, 0), 4);
        e.due("of 1", x.divide(1, 0), 5);
        e.due("of 99", x.divide(2, 0), 6);
        e.due("of 98", x.divide(3, 0), 7);
        e.depths("cut; the rest", x, 0, 1, 50, 49, 0, 0, 49, 49);
        e.due("SPRING of the old one", x.farm(2, 1), 9);
        e.due("SPRING of the new one", x.farm(6, 1), 0);
        e.due("it has paid nothing", x.farm(6, 4), 0);
    }

    private static void divideTouch(Edges e) {
        e.says(45, "TOUCHES it (STONE tight) and of those that TOUCH it the ones told as bits, with their STONES, which the old"
                + " one does not TOUCH any more: its number.");
        WellsNotEven none = Check.of("5;6;7;ab/3;ac/9;bc/1");
        e.due("none of them", none.divide(0, 0), 3);
        e.due("it touches the old one alone", none.farm(3, 2), 1);
        e.due("tight", none.stone(3, 0), 0);
        e.due("the old one touches them all", none.farm(0, 2), 14);
        WellsNotEven some = Check.of("5;6;7;ab/3;ac/9;bc/1");
        e.due("one of them", some.divide(0, 4), 3);
        e.due("the new one", some.farm(3, 2), 5);
        e.due("with its stone", some.stone(3, 2), 9);
        e.due("the old one", some.farm(0, 2), 10);
        e.due("does not touch it any more", some.stone(0, 2), -2);
        e.due("between others all stays", some.stone(1, 2), 1);
        WellsNotEven all = Check.of("5;6;7;ab/3;ac/0;bc/1");
        e.due("all of them", all.divide(0, 6), 3);
        e.due("the new one", all.farm(3, 2), 7);
        e.due("a tight one", all.stone(3, 2), 0);
        e.due("the old one touches the new one alone", all.farm(0, 2), 8);
        WellsNotEven eight = Check.of("1;1;1;1;1;1;1;8;ha/7;hg/2");
        e.due("the ninth", eight.divide(7, 65), 8);
        e.due("of the first and the seventh", eight.farm(8, 2), 193);
        e.due("their stones", eight.stone(0, 8) * 10 + eight.stone(8, 6), 72);
        WellsNotEven alone = Check.of("5");
        e.due("one alone", alone.divide(0, 0), 1);
        e.depths("one alone", alone, 3, 2);
        e.due("pairs", alone.count(4), 1);
    }

    private static void divideRefused(Edges e) {
        e.says(45, "Refused: none such, bits of others, 9.");
        Supplier<WellsNotEven> three = Edges.made("5+1;6;7;ab/3");
        e.alone("none such", three, x -> x.divide(3, 0), -1);
        e.alone("none such", three, x -> x.divide(-1, 0), -1);
        e.alone("none such", three, x -> x.divide(MOST, 0), -1);
        e.alone("none such", three, x -> x.divide(LEAST, 0), -1);
        e.alone("no farms", WellsNotEven::new, x -> x.divide(0, 0), -1);
        e.alone("itself", three, x -> x.divide(0, 1), -1);
        e.alone("one that does not touch it", three, x -> x.divide(0, 4), -1);
        e.alone("with one that does", three, x -> x.divide(0, 6), -1);
        e.alone("the new one", three, x -> x.divide(0, 8), -1);
        e.alone("all bits", three, x -> x.divide(0, -1), -1);
        e.alone("the highest bit", three, x -> x.divide(0, LEAST), -1);
        e.alone("nine", Edges.made("5;1;1;1;1;1;1;1;1;ab"), x -> x.divide(0, 2), -1);
        e.alone("nine, none such", Edges.made("5;1;1;1;1;1;1;1;1;ab"), x -> x.divide(9, 0), -1);
    }

    private static void keep(Edges e) {
        e.says(46, "DEPTHS, SPRINGS, WEEKS, what was paid, THE LAW are kept under a number 0 .. 2: true.");
        WellsNotEven x = Check.of("5;5;ab");
        for (int i = 0; i <= 2; i++) {
            x.law(1, i + 1);
            e.due("keep(" + i + ")", x.keep(i), true);
            x.week(0, 0);
        }
        for (int i = 2; i >= 0; i--) {
            e.due("again(" + i + ")", x.again(i), true);
            e.due("WEEKS", x.count(1), i);
            e.due("paid", x.count(3), new int[] {0, 2, 6}[i]);
            e.due("FINE", x.law(1, 9), i + 1);
        }
        e.due("none paid, of each", x.farm(0, 4), 0);
        x.set(0, 0, 99);
        x.set(1, 1, 9);
        x.law(0, 9);
        x.law(2, 8);
        x.law(1, 0);
        e.due("kept anew", x.keep(0), true);
        x.again(2);
        x.again(0);
        e.depths("DEPTHS", x, 99, 5);
        e.due("SPRINGS", x.farm(1, 1) * 10 + x.farm(0, 1), 90);
        e.due("THE LAW", x.law(0, 1) * 100 + x.law(1, 1) * 10 + x.law(2, 1), 908);
        e.due("no farms", new WellsNotEven().keep(2), true);
        e.says(46, "Refused: others.");
        Supplier<WellsNotEven> two = Edges.made("5;5;ab");
        e.alone("3", two, y -> Edges.bit(y.keep(3)), 0);
        e.alone("-1", two, y -> Edges.bit(y.keep(-1)), 0);
        e.alone("the most", two, y -> Edges.bit(y.keep(MOST)), 0);
        e.alone("the least", two, y -> Edges.bit(y.keep(LEAST)), 0);
    }

    private static void again(Edges e) {
        e.says(47, "They are as they were kept under a number.");
        WellsNotEven x = Check.of("5+2;6;ab/4");
        x.keep(1);
        x.week(9, 3);
        x.set(1, 0, 7);
        x.touch(0, 1, 9);
        x.seen(3, 1);
        x.law(0, 5);
        Check.tell(x, "ab");
        x.even();
        e.due("again", x.again(1), true);
        e.depths("again", x, 5, 6);
        e.due("SPRING", x.farm(0, 1), 2);
        e.due("WEEKS", x.count(1), 0);
        e.due("APART", x.law(0, 1), 1);
        e.due("the stone is not", x.stone(0, 1), 9);
        e.due("nor what was seen", x.count(6), 1);
        e.due("nor THE TEXT", x.count(8), 2);
        e.due("more than once", x.again(1), true);
        x.touch(0, 1, -1);
        e.due("though they do not touch now", x.again(1), true);
        e.due("nor do they then", x.count(4), 0);
    }

    private static Supplier<WellsNotEven> keeping(String county) {
        return () -> {
            WellsNotEven x = Edges.made(county).get();
            x.keep(1);
            x.set(0, 0, 9);
            x.week(0, 0);
            return x;
        };
    }

    private static void againRefused(Edges e) {
        e.says(47, "Refused: nothing kept, FARMS came since.");
        e.alone("nothing kept", Edges.made("5;6"), x -> Edges.bit(x.again(1)), 0);
        e.alone("nothing kept there", keeping("5;6"), x -> Edges.bit(x.again(0)), 0);
        e.alone("nothing kept there", keeping("5;6"), x -> Edges.bit(x.again(2)), 0);
        e.alone("3", keeping("5;6"), x -> Edges.bit(x.again(3)), 0);
        e.alone("-1", keeping("5;6"), x -> Edges.bit(x.again(-1)), 0);
        e.alone("the most", keeping("5;6"), x -> Edges.bit(x.again(MOST)), 0);
        e.alone("the least", keeping("5;6"), x -> Edges.bit(x.again(LEAST)), 0);
        e.alone("one came by a text", () -> {
            WellsNotEven x = keeping("5;6").get();
            Check.county(x, "7");
            x.week(0, 0);
            return x;
        }, x -> Edges.bit(x.again(1)), 0);
        e.alone("an heir came", () -> {
            WellsNotEven x = keeping("5;6").get();
            x.divide(0, 0);
            x.week(0, 0);
            return x;
        }, x -> Edges.bit(x.again(1)), 0);
        e.alone("none were there", () -> {
            WellsNotEven x = keeping("").get();
            Check.county(x, "7");
            return x;
        }, x -> Edges.bit(x.again(1)), 0);
        WellsNotEven pairs = keeping("5;6").get();
        Check.county(pairs, "ab/3");
        e.due("a pair that came does not matter", pairs.again(1), true);
        e.due("no farms, nothing kept", new WellsNotEven().again(0), false);
    }

    private static void count(Edges e) {
        e.says(48, "What 0: FARMS, 1: WEEKS, 2: the sum of DEPTHS, 3: what was paid in all, 4: pairs that TOUCH, 5: what can be"
                + " undone, 6: how much was told as seen, 7: numbers of the ROW, 8: signs of THE TEXT.");
        for (int what = 0; what <= 8; what++) {
            e.due("at first, what " + what, new WellsNotEven().count(what), 0);
        }
        WellsNotEven x = Edges.crowd(99);
        x.law(1, 9);
        x.weeks(50);
        x.colours();
        for (int i = 0; i < 20; i++) {
            x.sign(0);
            x.seen(1, 0);
            x.week(0, 0);
            x.week(0, 0);
        }
        int[] full = {9, 90, 891, 90 * 648, 36, 20, 10, 2, 80};
        for (int what = 0; what <= 8; what++) {
            e.due("full, what " + what, x.count(what), full[what]);
        }
        x.colours();
        e.due("a long ROW", x.count(7), 9);
        e.says(48, "NONE for another what.");
        e.alone("9", Edges.made("5;5;ab"), y -> y.count(9), -1);
        e.alone("-1", Edges.made("5;5;ab"), y -> y.count(-1), -1);
        e.alone("the most", Edges.made("5;5;ab"), y -> y.count(MOST), -1);
        e.alone("the least", Edges.made("5;5;ab"), y -> y.count(LEAST), -1);
    }

    private static void row(Edges e) {
        e.says(49, "Number i of the ROW.");
        WellsNotEven x = Check.of("20;0;ab");
        x.fill(1, 11);
        e.due("the most numbers", x.count(7), 10);
        e.due("the first", x.row(0), 1);
        e.due("the tenth", x.row(9), 1);
        e.says(49, "NoSuchElementException: none such.");
        e.none("none told", WellsNotEven::new, y -> y.row(0));
        e.none("an eleventh", () -> x, y -> y.row(10));
        e.none("-1", () -> x, y -> y.row(-1));
        e.none("the most", () -> x, y -> y.row(MOST));
        e.none("the least", () -> x, y -> y.row(LEAST));
        e.none("one behind the last", Edges.made("5;5;ab"), y -> y.row(1));
        Supplier<WellsNotEven> empty = () -> {
            WellsNotEven y = Check.of("5;6;ab");
            y.even();
            y.road(0, 1);
            return y;
        };
        e.due("an empty one", empty.get().count(7), 0);
        e.none("of an empty one", empty, y -> y.row(0));
    }

    private static void lastCall(Edges e) {
        // "An object is used for at most 512 calls": the 512th is one of them.
        e.says(Edges.TERMS, "WEEKS: how many went by (at first 0).");
        WellsNotEven x = new WellsNotEven();
        x.sign('9' << 24 | ';' << 16 | '9' << 8 | '9');
        x.county();
        for (int i = 3; i < 512; i++) {
            x.weeks(50);
        }
        e.due("the 512th call", x.count(1), 509 * 50);
    }
}
