import java.util.function.Supplier;

/** The boundary cases that promises 17 to 22 name. */
final class BucketsEdges {
    private static final int LEAST = Integer.MIN_VALUE;
    private static final int MOST = Integer.MAX_VALUE;

    private BucketsEdges() {
    }

    static void all(Edges e) {
        fewest(e);
        fewestNone(e);
        fewestTooMany(e);
        reach(e);
        reachTooMany(e);
        selfish(e);
        selfishNot(e);
        rests(e);
        restsRefused(e);
        alter(e);
        alterNone(e);
        fill(e);
        fillNone(e);
        fillTooMany(e);
    }

    /** With such an APART and BUCKET, and a ROW that can be seen to stay. */
    private static Supplier<WellsNotEven> under(String county, int apart, int bucket) {
        return () -> {
            WellsNotEven x = Edges.made(county).get();
            x.law(0, apart);
            x.law(2, bucket);
            return x;
        };
    }

    private static void fewest(Edges e) {
        e.says(17, "The fewest BUCKETS that make THE COUNTY LAWFUL: how many; the ROW: they (10 at most): of as few the least"
                + " row.");
        e.asks("no farms", WellsNotEven::new, WellsNotEven::fewest, 0);
        e.asks("lawful now", under("5;4;ab", 1, 1), WellsNotEven::fewest, 0);
        e.asks("one, of two that do", under("5;5;ab", 1, 1), WellsNotEven::fewest, 1, 1);
        e.asks("one, and no lesser one can be carried", under("0;0;5;5;5;ab;cd;de;bd", 1, 1), WellsNotEven::fewest, 1, 31);
        // Nine inches in each of three pairs: 9 and 0 alone is lawful, four, four and so many buckets away.
        e.asks("ten", under("5;4;5;4;7;2;ab;cd;ef", 9, 1), WellsNotEven::fewest, 10, 10, 10, 10, 10, 32, 32, 32, 32, 54, 54);
        e.asks("eleven", under("5;4;5;4;6;3;ab;cd;ef", 9, 1), WellsNotEven::fewest, 11, 10, 10, 10, 10, 32, 32, 32, 32, 54,
                54);
        e.asks("just apart", under("9;9;ab", 8, 4), WellsNotEven::fewest, 1, 1);
        e.asks("not yet apart by one", under("9;9;ab", 9, 4), WellsNotEven::fewest, 2, 1, 1);
    }

    private static void fewestNone(Edges e) {
        e.says(17, "-2: none do;");
        e.alone("no water", under("0;0;ab", 1, 1), WellsNotEven::fewest, -2);
        e.alone("no room", under("99;99;ab", 1, 1), WellsNotEven::fewest, -2);
        e.alone("too little for the law", under("4;4;ab", 9, 1), WellsNotEven::fewest, -2);
        e.alone("too little for a bucket", under("8;8;ab", 1, 9), WellsNotEven::fewest, -2);
        e.asks("just enough for one", under("9;9;ab", 1, 9), WellsNotEven::fewest, 1, 1);
        e.asks("just room for one", under("90;90;ab", 1, 9), WellsNotEven::fewest, 1, 1);
        e.alone("too little room for a bucket", under("91;91;ab", 1, 9), WellsNotEven::fewest, -2);
        e.alone("just 3000 are found: 50 times 60", under("49;0;59;0;0;0;ab;cd;ef", 1, 1), WellsNotEven::fewest, -2);
    }

    private static void fewestTooMany(Edges e) {
        e.says(17, "-3: of the first 3000 that are found none is, and there are more.");
        // Which one is found as the 3000th was counted by another program.
        e.asks("the 3000th is", under("14;24;12;24;10;12;ac;bd;ef", 9, 1), WellsNotEven::fewest, 13, 13, 13, 13, 13, 13, 20,
                20, 20, 20, 45);
        e.alone("the 3001st is", under("20;16;14;20;6;6;ad;bc;ef", 9, 1), WellsNotEven::fewest, -3);
        e.alone("none is, of 3009: 51 times 59", under("50;0;58;0;0;0;ab;cd;ef", 1, 1), WellsNotEven::fewest, -3);
        e.alone("none is, of many", () -> {
            WellsNotEven x = Edges.crowd(50);
            x.law(0, 9);
            x.weeks(0);
            return x;
        }, WellsNotEven::fewest, -3);
    }

    private static void reach(Edges e) {
        e.says(18, "How many unlike DEPTHS of all FARMS can come by just n (0 .. 4) or fewer BUCKETS; the ROW: how many of them"
                + " are LAWFUL, the fewest pairs EVEN in any.");
        e.asks("none", under("5;5;ab", 1, 1), x -> x.reach(0), 1, 0, 1);
        e.asks("one or none", under("5;5;ab", 1, 1), x -> x.reach(1), 3, 2, 0);
        e.asks("four or fewer", under("5;5;ab", 1, 1), x -> x.reach(4), 9, 8, 0);
        e.asks("no farms", WellsNotEven::new, x -> x.reach(4), 1, 1, 0);
        e.asks("one farm", under("5", 9, 1), x -> x.reach(4), 1, 1, 0);
        e.asks("no water", under("0;0;ab", 1, 1), x -> x.reach(4), 1, 0, 1);
        e.asks("room for one", under("99;99;98;ab;bc", 1, 1), x -> x.reach(1), 2, 1, 0);
        e.asks("no room", under("99;99;99;ab;bc", 1, 1), x -> x.reach(4), 1, 0, 2);
        e.asks("never lawful", under("4;4;ab", 9, 1), x -> x.reach(4), 9, 0, 1);
        e.asks("lawful by four alone", under("4;4;ab", 8, 1), x -> x.reach(4), 9, 2, 0);
        e.asks("not yet by three", under("4;4;ab", 8, 1), x -> x.reach(3), 7, 0, 1);
        e.says(18, "NONE: another n.");
        e.alone("5", under("5;5;ab", 1, 1), x -> x.reach(5), -1);
        e.alone("-1", under("5;5;ab", 1, 1), x -> x.reach(-1), -1);
        e.alone("the most", under("5;5;ab", 1, 1), x -> x.reach(MOST), -1);
        e.alone("the least", under("5;5;ab", 1, 1), x -> x.reach(LEAST), -1);
    }

    private static void reachTooMany(Edges e) {
        e.says(18, "-3;");
        // BucketsTest counts them by the plain model.
        e.due("3000", Check.of("2;2;2;2;2;3;3;ab;ac;bd;ae;ef;ag;af;bc;gc;bf").reach(4), 3000);
        e.alone("3001", under("3;1;3;3;1;1;1;2;ab;ac;cd;ae;df;dg;fh;dc;cg;dh", 1, 1), x -> x.reach(4), -3);
        e.due("1405 by two", Edges.crowd(50).reach(2), 1405);
        e.due("more by three", Edges.crowd(50).reach(3), -3);
    }

    private static void selfish(Edges e) {
        e.says(19, "Whether and where a FARM would best carry one BUCKET away, for itself: so that it is EVEN with the fewest"
                + " then;");
        e.asks("even with two, to one", under("5;5;5;ab;ac", 1, 1), x -> x.selfish(0), 1, 0);
        e.asks("to the last, for there alone is room", under("99;99;98;ab;ac", 1, 1), x -> x.selfish(0), 2, 0);
        e.asks("4 5 5, not 4 6 4", under("5;5;4;ab;ac", 1, 1), x -> x.selfish(0), 2, 0);
        e.asks("the fewest, not the first that are fewer", under("5;3;9;5;5;ab;ac;ad;ae", 1, 1), x -> x.selfish(0), 2, 0);
        e.asks("its last inches, to one full then", under("9;9;90;ab;ac", 1, 9), x -> x.selfish(0), 1, 0);
        e.says(19, "the FARM to, or NONE; the ROW: with how many it is EVEN then.");
        e.asks("the last farm to the first", under("5;1;1;1;1;1;1;1;5;ai", 1, 1), x -> x.selfish(8), 0, 0);
        e.asks("even with eight, and so it stays", () -> {
            WellsNotEven x = Edges.crowd(5);
            x.law(0, 9);
            return x;
        }, x -> x.selfish(4), -1, 8);
        e.says(19, "-2: none such.");
        e.alone("2 of two", under("5;5;ab", 1, 1), x -> x.selfish(2), -2);
        e.alone("-1", under("5;5;ab", 1, 1), x -> x.selfish(-1), -2);
        e.alone("the most", under("5;5;ab", 1, 1), x -> x.selfish(MOST), -2);
        e.alone("the least", under("5;5;ab", 1, 1), x -> x.selfish(LEAST), -2);
        e.alone("no farms", WellsNotEven::new, x -> x.selfish(0), -2);
    }

    private static void selfishNot(Edges e) {
        e.says(19, "of as good ones not to (NONE), then to the first:");
        e.asks("even with none", under("5;9;ab", 1, 1), x -> x.selfish(0), -1, 0);
        e.asks("as good: not to", under("5;5;4;ab;ac", 3, 1), x -> x.selfish(0), -1, 2);
        e.asks("fewer: to it, though not with none", under("5;5;4;ab;ac", 2, 1), x -> x.selfish(0), 1, 1);
        e.asks("of as good ones the first", under("5;9;9;5;ad;ac;ab", 1, 1), x -> x.selfish(0), 1, 0);
        e.asks("the first that can be", under("5;99;9;5;ad;ac;ab", 1, 1), x -> x.selfish(0), 2, 0);
        e.asks("dry", under("0;0;ab", 1, 1), x -> x.selfish(0), -1, 1);
        e.asks("none has room", under("99;99;ab", 1, 1), x -> x.selfish(0), -1, 1);
        e.asks("an inch too few", under("8;8;ab", 1, 9), x -> x.selfish(0), -1, 1);
        e.asks("an inch too many", under("91;91;ab", 1, 9), x -> x.selfish(0), -1, 1);
        e.asks("none touches", under("5;5", 9, 1), x -> x.selfish(0), -1, 0);
    }

    private static void rests(Edges e) {
        e.says(20, "FARMS by numbers, round by round (n at most, 0 .. 40), each carry what selfish() tells, till in a whole"
                + " round nobody carries: how many rounds there were (that last one, too); the ROW: 1 if there was such a last"
                + " one, else 0, pairs EVEN then.");
        e.asks("no round", under("5;5;ab", 1, 1), x -> x.rests(0), 0, 0, 1);
        WellsNotEven x = under("5;5;ab", 1, 1).get();
        e.due("one round", x.rests(1), 1);
        e.row("in which one carried", x, 0, 0);
        e.depths("a comes first", x, 4, 6);
        x.undo();
        e.due("two", x.rests(2), 2);
        e.row("the last one", x, 1, 0);
        x.undo();
        e.due("no more than there are", x.rests(40), 2);
        e.asks("the first is the last", under("5;5;ab", 9, 1), y -> y.rests(40), 1, 1, 1);
        e.asks("of one, the first is the last", under("5;5;ab", 9, 1), y -> y.rests(1), 1, 1, 1);
        e.asks("nine farms, of which none is better off by a bucket", () -> {
            WellsNotEven y = Edges.crowd(50);
            y.law(0, 9);
            return y;
        }, y -> y.rests(40), 1, 1, 36);
        e.asks("no farms", WellsNotEven::new, y -> y.rests(40), 1, 1, 0);
        e.asks("no farms, no round", WellsNotEven::new, y -> y.rests(0), 0, 0, 0);
        WellsNotEven endless = Check.of("1;1;0;ab;bc;ac");
        e.due("40 without rest", endless.rests(40), 40);
        e.row("40 without rest", endless, 0, 1);
        e.due("39 without rest", endless.rests(39), 39);
        WellsNotEven turns = Check.of("5;5;5;ab;bc");
        e.due("a to b, and c, even with none, does not", turns.rests(40), 2);
        e.depths("each sees what those ahead of it did", turns, 4, 6, 5);
    }

    private static void restsRefused(Edges e) {
        e.says(20, "NONE: another n.");
        e.alone("41", under("5;5;ab", 1, 1), x -> x.rests(41), -1);
        e.alone("-1", under("5;5;ab", 1, 1), x -> x.rests(-1), -1);
        e.alone("the most", under("5;5;ab", 1, 1), x -> x.rests(MOST), -1);
        e.alone("the least", under("5;5;ab", 1, 1), x -> x.rests(LEAST), -1);
    }

    private static void alter(Edges e) {
        e.says(21, "By how many inches at least DEPTH of one FARM alone must be otherwise so that it is EVEN with none: how many;"
                + " the ROW: DEPTH then (of as little the lesser).");
        e.asks("even with none", under("5;6;ab", 1, 1), x -> x.alter(0), 0, 5);
        e.asks("none touches", under("5;5", 9, 1), x -> x.alter(0), 0, 5);
        e.asks("of as little the lesser", under("5;5;ab", 1, 1), x -> x.alter(0), 1, 4);
        e.asks("to 0", under("1;1;ab", 1, 1), x -> x.alter(0), 1, 0);
        e.asks("not below 0", under("0;0;ab", 1, 1), x -> x.alter(0), 1, 1);
        e.asks("to 99", under("98;97;ab", 2, 1), x -> x.alter(0), 1, 99);
        e.asks("not above 99", under("99;98;ab", 2, 1), x -> x.alter(0), 3, 96);
        e.asks("the nearer is the deeper", under("50;48;ab", 9, 1), x -> x.alter(0), 7, 57);
        e.asks("from 0 to 99, the only one", under("0;8;25;42;59;76;90;ab;ac;ad;ae;af;ag", 9, 1), x -> x.alter(0), 99, 99);
        e.asks("from 99 to 0, the only one", under("99;9;23;40;57;74;91;ab;ac;ad;ae;af;ag", 9, 1), x -> x.alter(0), 99, 0);
    }

    private static void alterNone(Edges e) {
        e.says(21, "-2: there is none;");
        e.alone("0 .. 99 are taken", under("40;8;25;42;59;76;91;ab;ac;ad;ae;af;ag", 9, 1), x -> x.alter(0), -2);
        e.asks("99 is not", under("40;8;25;42;59;76;90;ab;ac;ad;ae;af;ag", 9, 1), x -> x.alter(0), 59, 99);
        e.says(21, "NONE: none such.");
        e.alone("2 of two", under("5;5;ab", 1, 1), x -> x.alter(2), -1);
        e.alone("-1", under("5;5;ab", 1, 1), x -> x.alter(-1), -1);
        e.alone("the most", under("5;5;ab", 1, 1), x -> x.alter(MOST), -1);
        e.alone("the least", under("5;5;ab", 1, 1), x -> x.alter(LEAST), -1);
        e.alone("no farms", WellsNotEven::new, x -> x.alter(0), -1);
    }

    private static void fill(Edges e) {
        e.says(22, "The fewest BUCKETS by which a FARM has a DEPTH of v (0 .. 99) or more: how many; the ROW: they (10 at most):"
                + " of as few the least row.");
        e.asks("0", under("0;5;ab", 1, 1), x -> x.fill(0, 0), 0);
        e.asks("just what it has", under("5;5;ab", 1, 1), x -> x.fill(0, 5), 0);
        e.asks("less than it has", under("5;5;ab", 1, 1), x -> x.fill(0, 4), 0);
        e.asks("one more", under("5;5;ab", 1, 1), x -> x.fill(0, 6), 1, 10);
        e.asks("99", under("98;99;ab", 1, 1), x -> x.fill(0, 99), 1, 10);
        e.asks("or more: 5 and 9", under("5;9;ab", 1, 9), x -> x.fill(0, 6), 1, 10);
        e.asks("ten", under("20;0;ab", 1, 1), x -> x.fill(1, 10), 10, 1, 1, 1, 1, 1, 1, 1, 1, 1, 1);
        e.asks("eleven, of which ten are told", under("20;0;ab", 1, 1), x -> x.fill(1, 11), 11, 1, 1, 1, 1, 1, 1, 1, 1, 1, 1);
        e.asks("the first ten of twelve", under("20;0;0;ab;bc", 1, 1), x -> x.fill(2, 6), 12, 1, 1, 1, 1, 1, 1, 12, 12, 12, 12);
        e.asks("of as few the least row", under("5;5;5;ab;ac", 1, 1), x -> x.fill(0, 7), 2, 10, 10);
    }

    private static void fillNone(Edges e) {
        e.says(22, "-2: none do;");
        e.alone("one inch too few", under("5;5;ab", 1, 1), x -> x.fill(0, 11), -2);
        e.due("all there is", under("5;5;ab", 1, 1).get().fill(0, 10), 5);
        e.alone("no room for a bucket above 90", under("91;99;ab", 1, 9), x -> x.fill(0, 92), -2);
        e.due("just room for one", under("90;99;ab", 1, 9).get().fill(0, 99), 1);
        e.alone("none touches", under("5;50", 1, 1), x -> x.fill(0, 6), -2);
        e.says(22, "NONE: others.");
        e.alone("100", under("99;99;ab", 1, 1), x -> x.fill(0, 100), -1);
        e.alone("-1", under("5;5;ab", 1, 1), x -> x.fill(0, -1), -1);
        e.alone("the most", under("5;5;ab", 1, 1), x -> x.fill(0, MOST), -1);
        e.alone("the least", under("5;5;ab", 1, 1), x -> x.fill(0, LEAST), -1);
        e.alone("none such", under("5;5;ab", 1, 1), x -> x.fill(2, 0), -1);
        e.alone("none such", under("5;5;ab", 1, 1), x -> x.fill(-1, 0), -1);
        e.alone("no farms", WellsNotEven::new, x -> x.fill(0, 0), -1);
    }

    private static void fillTooMany(Edges e) {
        e.says(22, "-3: of the first 3000 that are found none has, and there are more;");
        // Ten inches in six wells: 3003 depths; which one is found as the 3000th was counted by another program.
        Supplier<WellsNotEven> six = under("3;0;5;0;1;1;ab;bc;ad;ae;af", 1, 1);
        e.asks("the 3000th has", six, x -> x.fill(4, 10), 20, 4, 4, 4, 21, 10, 4, 21, 10, 4, 21);
        e.alone("the 3001st has", six, x -> x.fill(5, 10), -3);
        e.alone("none of 3003 has", six, x -> x.fill(5, 11), -3);
        e.alone("just 3000 are found: 50 times 60", under("49;0;59;0;ab;cd", 1, 1), x -> x.fill(3, 60), -2);
        e.alone("51 times 59 are more", under("50;0;58;0;ab;cd", 1, 1), x -> x.fill(3, 59), -3);
    }
}
