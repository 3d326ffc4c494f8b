import java.util.function.Supplier;

/** The boundary cases that promises 23 to 26 name. */
final class ColoursEdges {
    private static final int LEAST = Integer.MIN_VALUE;

    private ColoursEdges() {
    }

    static void all(Edges e) {
        colours(e);
        clique(e);
        lowest(e);
        place(e);
        placeRefused(e);
    }

    private static Supplier<WellsNotEven> under(String county, int apart) {
        return () -> {
            WellsNotEven x = Edges.made(county).get();
            x.law(0, apart);
            return x;
        };
    }

    private static Supplier<WellsNotEven> crowd(int apart) {
        return () -> {
            WellsNotEven x = Edges.crowd(50);
            x.law(0, apart);
            return x;
        };
    }

    private static void colours(Edges e) {
        e.says(23, "The fewest unlike DEPTHS with which all that TOUCH can be unlike: how many; the ROW: for each FARM a number"
                + " 0 .. of its DEPTH: of as few the least row.");
        e.asks("no farms", under("", 1), WellsNotEven::colours, 0);
        e.asks("one farm", under("99", 1), WellsNotEven::colours, 1, 0);
        e.asks("none touch", under("5;5;5", 1), WellsNotEven::colours, 1, 0, 0, 0);
        e.asks("two", under("5;9;ab/9", 1), WellsNotEven::colours, 2, 0, 1);
        e.asks("two that touch, and one alone between them", under("5;5;5;ac", 1), WellsNotEven::colours, 2, 0, 0, 1);
        e.asks("the least row, not each the least: a d b c", under("0;0;0;0;ad;db;bc", 1), WellsNotEven::colours, 2, 0, 0, 1,
                1);
        e.asks("two will do, but not with a and b alike", under("0;0;0;0;ac;cd;db", 1), WellsNotEven::colours, 2, 0, 1, 1, 0);
        e.asks("a ring of three", under("0;0;0;ab;bc;ca", 1), WellsNotEven::colours, 3, 0, 1, 2);
        e.asks("a ring of nine", under("0;0;0;0;0;0;0;0;0;ab;bc;cd;de;ef;fg;gh;hi;ia", 1), WellsNotEven::colours, 3, 0, 1, 0,
                1, 0, 1, 0, 1, 2);
        e.asks("nine that all touch", crowd(9), WellsNotEven::colours, 9, 0, 1, 2, 3, 4, 5, 6, 7, 8);
        e.asks("all but one pair", () -> {
            WellsNotEven x = Edges.crowd(50);
            x.touch(7, 8, -1);
            return x;
        }, WellsNotEven::colours, 8, 0, 1, 2, 3, 4, 5, 6, 7, 7);
    }

    private static void clique(Edges e) {
        e.says(24, "The most FARMS that all TOUCH one another: how many; the ROW: they (bits; of as many the least).");
        e.asks("no farms", under("", 1), WellsNotEven::clique, 0, 0);
        e.asks("one farm", under("99", 1), WellsNotEven::clique, 1, 1);
        e.asks("none touch", under("5;5;5", 1), WellsNotEven::clique, 1, 1);
        e.asks("the last two", under("5;5;5;cb/9", 1), WellsNotEven::clique, 2, 6);
        e.asks("of as many the least bits: cd, not ae", under("5;5;5;5;5;ae;cd", 1), WellsNotEven::clique, 2, 12);
        e.asks("a ring of four has no three", under("5;5;5;5;ab;bc;cd;da", 1), WellsNotEven::clique, 2, 3);
        e.asks("nine", crowd(1), WellsNotEven::clique, 9, 511);
        e.asks("eight, without the last", () -> {
            WellsNotEven x = Edges.crowd(50);
            x.touch(7, 8, -1);
            return x;
        }, WellsNotEven::clique, 8, 255);
    }

    private static void lowest(Edges e) {
        e.says(25, "DEPTHS with which THE COUNTY would be LAWFUL, the greatest of them as little as can be: that greatest one;"
                + " the ROW: DEPTH of each FARM: of all such the least row.");
        e.asks("one farm", under("99", 9), WellsNotEven::lowest, 0, 0);
        e.asks("none touch", under("50;50", 9), WellsNotEven::lowest, 0, 0, 0);
        e.asks("just apart by 1", under("50;50;ab", 1), WellsNotEven::lowest, 1, 0, 1);
        e.asks("just apart by 9", under("50;50;ab", 9), WellsNotEven::lowest, 9, 0, 9);
        e.asks("nine by 9", crowd(9), WellsNotEven::lowest, 72, 0, 9, 18, 27, 36, 45, 54, 63, 72);
        e.asks("the greatest as little as can be, though a and b could be 0", under("0;0;0;0;ac;cd;db", 3),
                WellsNotEven::lowest, 3, 0, 3, 3, 0);
        e.says(25, "0 without FARMS.");
        e.asks("no farms", under("", 9), WellsNotEven::lowest, 0);
    }

    private static void place(Edges e) {
        e.says(26, "DEPTHS at which a new well may stand that would TOUCH FARMS told as bits: how many; the ROW: the lowest, the"
                + " highest (none without).");
        e.asks("touching none", under("50;50", 9), x -> x.place(0), 100, 0, 99);
        e.asks("no farms", under("", 9), x -> x.place(0), 100, 0, 99);
        e.asks("a well of 0", under("0;50", 9), x -> x.place(1), 91, 9, 99);
        e.asks("a well of 99", under("99;50", 9), x -> x.place(1), 91, 0, 90);
        e.asks("both ends", under("0;99", 1), x -> x.place(3), 98, 1, 98);
        e.asks("one between", under("50;7", 1), x -> x.place(1), 99, 0, 99);
        e.asks("apart by 2", under("50;7", 2), x -> x.place(1), 97, 0, 99);
        e.asks("0 alone", under("9;23;40;57;74;91", 9), x -> x.place(63), 1, 0, 0);
        e.asks("99 alone", under("8;25;42;59;76;90", 9), x -> x.place(63), 1, 99, 99);
        e.asks("nowhere: none without", under("8;25;42;59;76;91", 9), x -> x.place(63), 0);
        e.asks("of nine, the last alone", crowd(1), x -> x.place(256), 99, 0, 99);
        e.asks("all of nine", crowd(9), x -> x.place(511), 83, 0, 99);
    }

    private static void placeRefused(Edges e) {
        e.says(26, "NONE: bits of none such.");
        e.alone("bit 2 of two", under("5;5", 1), x -> x.place(4), -1);
        e.alone("with one that is there", under("5;5", 1), x -> x.place(5), -1);
        e.alone("all bits", under("5;5", 1), x -> x.place(-1), -1);
        e.alone("the highest bit", under("5;5", 1), x -> x.place(LEAST), -1);
        e.alone("no farms", under("", 1), x -> x.place(1), -1);
        e.alone("a tenth", crowd(1), x -> x.place(512), -1);
    }
}
