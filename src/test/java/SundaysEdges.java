import java.util.function.Supplier;

/** The boundary cases that promises 39 to 44 name. */
final class SundaysEdges {
    private static final int LEAST = Integer.MIN_VALUE;
    private static final int MOST = Integer.MAX_VALUE;

    private SundaysEdges() {
    }

    static void all(Edges e) {
        seen(e);
        seenRefused(e);
        forget(e);
        springs(e);
        stones(e);
        nights(e);
        sunday(e);
        sundayWays(e);
    }

    /** A county of which was seen that so many weeks on so many pairs are even. */
    private static Supplier<WellsNotEven> seeing(String county, int... told) {
        return () -> {
            WellsNotEven x = Edges.made(county).get();
            for (int i = 0; i + 1 < told.length; i += 2) {
                x.seen(told[i], told[i + 1]);
            }
            return x;
        };
    }

    private static void seen(Edges e) {
        e.says(39, "n WEEKS (1 .. 100) on, from when it is asked for, so many pairs (0 .. 36) are seen EVEN: how many such were"
                + " told.");
        WellsNotEven x = Check.of("60+1;21;82;ab/9;bc");
        e.due("1 week, no pairs", x.seen(1, 0), 1);
        e.due("100 weeks, one pair", x.seen(100, 1), 2);
        e.asks("as it is in 100 weeks: a and b may share it otherwise, too", () -> x, WellsNotEven::nights, 2, 1, 1);
        e.due("the same again", x.seen(100, 1), 3);
        WellsNotEven soon = Check.of("0+1;10;ab");
        soon.seen(10, 1);
        e.due("ten weeks from now", soon.springs(0), 2);
        soon.week(0, 0);
        e.due("from when it is asked for: a week later it is not so", soon.springs(0), 0);
        WellsNotEven nine = Edges.crowd(5);
        e.due("36 pairs", nine.seen(1, 36), 1);
        e.due("they are so", nine.stones(0, 1) & 1, 1);
        e.due("no farms", new WellsNotEven().seen(1, 36), 1);
    }

    private static void seenRefused(Edges e) {
        e.says(39, "Refused: others, 10.");
        e.alone("0 weeks", seeing("5;5;ab"), x -> x.seen(0, 0), -1);
        e.alone("-1 weeks", seeing("5;5;ab"), x -> x.seen(-1, 0), -1);
        e.alone("101 weeks", seeing("5;5;ab"), x -> x.seen(101, 0), -1);
        e.alone("the most weeks", seeing("5;5;ab"), x -> x.seen(MOST, 0), -1);
        e.alone("the least weeks", seeing("5;5;ab"), x -> x.seen(LEAST, 0), -1);
        e.alone("-1 pairs", seeing("5;5;ab"), x -> x.seen(1, -1), -1);
        e.alone("37 pairs", seeing("5;5;ab"), x -> x.seen(1, 37), -1);
        e.alone("the most pairs", seeing("5;5;ab"), x -> x.seen(1, MOST), -1);
        e.alone("the least pairs", seeing("5;5;ab"), x -> x.seen(1, LEAST), -1);
        Supplier<WellsNotEven> nine = seeing("5;5;ab", 1, 1, 1, 1, 1, 1, 1, 1, 1, 1, 1, 1, 1, 1, 1, 1, 1, 1);
        e.due("a tenth", nine.get().seen(2, 1), 10);
        Supplier<WellsNotEven> ten = () -> {
            WellsNotEven x = nine.get();
            x.seen(2, 1);
            return x;
        };
        e.alone("an eleventh", ten, x -> x.seen(2, 0), -1);
        WellsNotEven x = ten.get();
        x.seen(2, 0);
        e.due("nor does it count", x.springs(0), 1);
        x.forget();
        e.due("ten again", x.seen(2, 1), 10);
    }

    private static void forget(Edges e) {
        e.says(40, "The latest that was told is forgotten: how many are left.");
        WellsNotEven x = seeing("0+1;10;ab", 5, 1, 5, 0).get();
        e.due("both can't be", x.springs(0), 0);
        e.due("one is left", x.forget(), 1);
        e.due("the first one", x.springs(0), 4);
        e.due("none is left", x.forget(), 0);
        e.due("nothing seen", x.springs(0), 1023);
        e.says(40, "Refused: none.");
        e.alone("none is left", () -> x, WellsNotEven::forget, -1);
        e.alone("none was told", seeing("5;5;ab"), WellsNotEven::forget, -1);
        e.due("one told after that", x.seen(1, 1), 1);
    }

    private static void springs(Edges e) {
        e.says(41, "SPRINGS 0 .. 9 (bits) of a FARM, all else as it is, by which all that was seen would be so.");
        e.alone("nothing seen: all", seeing("5;5;ab"), x -> x.springs(0), 1023);
        e.alone("0 alone", seeing("5+3;5;ab", 1, 1), x -> x.springs(0), 1);
        e.alone("9 alone", seeing("0;9;ab", 1, 1), x -> x.springs(0), 512);
        e.alone("none", seeing("0;10;ab", 1, 1), x -> x.springs(0), 0);
        e.alone("all but 9", seeing("0;9;ab", 1, 0), x -> x.springs(0), 511);
        e.alone("of one that touches none: all, if it is so", seeing("5;5;7;ab", 1, 1), x -> x.springs(2), 1023);
        e.alone("or none, if it is not", seeing("5;5;7;ab", 1, 0), x -> x.springs(2), 0);
        // With 0 and 99 in 99 weeks: an inch a week; 2 fills it after 50, and so do more.
        e.alone("99 weeks", seeing("0;99;ab", 98, 0, 99, 1), x -> x.springs(0), 2);
        e.alone("100 weeks", seeing("60+1;21;82;ab/9;bc", 99, 0, 100, 1), x -> x.springs(0), 2);
        e.alone("101 weeks", seeing("60+1;20;82;ab/9;bc", 99, 0, 100, 1), x -> x.springs(0), 0);
        e.alone("all that was seen, in any order", seeing("0;10;ab", 10, 0, 5, 1, 1, 0), x -> x.springs(0), 4);
        e.says(41, "NONE: none such.");
        e.alone("2 of two", seeing("5;5;ab"), x -> x.springs(2), -1);
        e.alone("-1", seeing("5;5;ab"), x -> x.springs(-1), -1);
        e.alone("the most", seeing("5;5;ab"), x -> x.springs(MOST), -1);
        e.alone("the least", seeing("5;5;ab"), x -> x.springs(LEAST), -1);
        e.alone("no farms", WellsNotEven::new, x -> x.springs(0), -1);
    }

    private static void stones(Edges e) {
        e.says(42, "STONES 0 .. 9 (bits) between two that TOUCH, likewise.");
        e.alone("nothing seen: all", seeing("40;0;ab/3"), x -> x.stones(0, 1), 1023);
        e.alone("1 alone", seeing("40;0;ab/3", 1, 1), x -> x.stones(1, 0), 2);
        e.alone("none", seeing("40;1;ab/3", 1, 1), x -> x.stones(0, 1), 0);
        e.alone("all but 1, tight too", seeing("40;0;ab/3", 1, 0), x -> x.stones(0, 1), 1021);
        // Through 9 comes one inch (33 by 18), through others come more: b has 1 then, as c has.
        e.alone("9 alone", seeing("33;0;1;ab/1;bc", 1, 1), x -> x.stones(0, 1), 512);
        e.alone("tight alone", seeing("33;0;0;ab/1;bc", 1, 1), x -> x.stones(0, 1), 1);
        e.says(42, "-2: they do not TOUCH;");
        e.alone("they do not", seeing("5;5;5;ab", 1, 1), x -> x.stones(0, 2), -2);
        e.says(42, "NONE: none such, like ones.");
        e.alone("none such", seeing("5;5;ab"), x -> x.stones(0, 2), -1);
        e.alone("none such", seeing("5;5;ab"), x -> x.stones(2, 0), -1);
        e.alone("none such", seeing("5;5;ab"), x -> x.stones(-1, 0), -1);
        e.alone("none such", seeing("5;5;ab"), x -> x.stones(0, LEAST), -1);
        e.alone("like ones", seeing("5;5;ab"), x -> x.stones(1, 1), -1);
        e.alone("no farms", WellsNotEven::new, x -> x.stones(0, 1), -1);
    }

    private static void nights(Edges e) {
        e.says(43, "BUCKETS, one alone carried now, by which all that was seen would be so: how many; the ROW: the first (none"
                + " without), 1 if it would be so without any, else 0 (alone, without one).");
        e.asks("no farms, nothing seen", WellsNotEven::new, WellsNotEven::nights, 0, 1);
        e.asks("no farms, but pairs", () -> {
            WellsNotEven x = new WellsNotEven();
            x.seen(1, 1);
            return x;
        }, WellsNotEven::nights, 0, 0);
        e.asks("nothing seen: both, and without", seeing("5;5;ab"), WellsNotEven::nights, 2, 1, 1);
        e.asks("dry: none, and so it is", seeing("0;0;ab", 1, 1), WellsNotEven::nights, 0, 1);
        e.asks("dry: none, and so it is not", seeing("0;0;ab", 1, 0), WellsNotEven::nights, 0, 0);
        e.asks("full: none", seeing("99;99;ab", 1, 0), WellsNotEven::nights, 0, 0);
        e.asks("just one inch, just room", seeing("1;98;ab", 1, 0), WellsNotEven::nights, 2, 1, 1);
        e.asks("no inch: the other one alone", seeing("0;50;ab", 1, 0), WellsNotEven::nights, 1, 10, 1);
        e.asks("one explains, and without it is not so", seeing("6;4;ab", 1, 1), WellsNotEven::nights, 1, 1, 0);
        e.asks("the first of two that do", seeing("5;5;ab", 1, 0), WellsNotEven::nights, 2, 1, 0);
        e.asks("of nine all do", () -> Edges.crowd(50), WellsNotEven::nights, 72, 1, 1);
        e.asks("the last one", seeing("1;1;1;1;1;1;1;4;6;hi", 1, 1), WellsNotEven::nights, 1, 87, 0);
    }

    private static void sunday(Edges e) {
        e.says(44, "The SUNDAY (1 .. 20 WEEKS on) that tells best whose SPRING is 1 more than told, one FARM's or nobody's");
        e.asks("the first", seeing("4;5;ab"), WellsNotEven::sunday, 1, 2);
        e.asks("even, if it is nobody's", seeing("5;5;ab"), WellsNotEven::sunday, 1, 2);
        e.asks("the twentieth", seeing("0;20;ab"), WellsNotEven::sunday, 20, 2);
        e.asks("the twenty-first is not looked at", seeing("0;21;ab"), WellsNotEven::sunday, 1, 3);
        e.says(44, "by how many pairs are EVEN then: the one whose most likely number (as many such ways) leaves the fewest"
                + " ways; of equal ones the first: it; the ROW: how many ways that leaves.");
        e.asks("none tells: the first", seeing("5;50;ab"), WellsNotEven::sunday, 1, 3);
        e.asks("of equal ones the first", seeing("0;5;50;55;ab;cd"), WellsNotEven::sunday, 5, 3);
        e.says(44, "-2: no FARMS.");
        e.alone("no farms", WellsNotEven::new, WellsNotEven::sunday, -2);
    }

    private static void sundayWays(Edges e) {
        e.says(44, "(those ways; a SPRING of 9 is never more),");
        e.asks("one farm: it or nobody", seeing("5"), WellsNotEven::sunday, 1, 2);
        e.asks("one farm of 9: nobody", seeing("5+9"), WellsNotEven::sunday, 1, 1);
        e.asks("one of 8 may have 9", seeing("5+8"), WellsNotEven::sunday, 1, 2);
        e.asks("both of 9: nobody", seeing("0+9;9+9;ab"), WellsNotEven::sunday, 1, 1);
        e.asks("nine farms: ten ways", () -> Edges.crowd(0), WellsNotEven::sunday, 1, 9);
    }
}
