import java.util.function.Supplier;

/** The boundary cases that promises 27 to 38 name. */
final class AheadEdges {
    private static final int LEAST = Integer.MIN_VALUE;
    private static final int MOST = Integer.MAX_VALUE;

    /**
     * An inch a week comes to a, and a and b share 81 at first. With 180 after 99 weeks a is full and b has 81;
     * one more seeps to b after 100 weeks alone, and b and c are even then, first.
     */
    private static final String HUNDRED = "60+1;21;82;ab/9;bc";

    /** The same, a week later. */
    private static final String BEYOND = "60+1;20;82;ab/9;bc";

    private AheadEdges() {
    }

    static void all(Edges e) {
        lasts(e);
        later(e);
        still(e);
        keeps(e);
        keepsFirst(e);
        keepsRefused(e);
        mercy(e);
        drought(e);
        droughtNever(e);
        clash(e);
        payer(e);
        prays(e);
        seal(e);
        road(e);
        boon(e);
    }

    private static Supplier<WellsNotEven> under(String county, int apart) {
        return () -> {
            WellsNotEven x = Edges.made(county).get();
            x.law(0, apart);
            return x;
        };
    }

    private static Supplier<WellsNotEven> of(String county) {
        return under(county, 1);
    }

    private static void lasts(Edges e) {
        e.says(27, "After how many WEEKS (1 .. 100) THE COUNTY is not LAWFUL first.");
        e.alone("1", of("5;5;ab"), WellsNotEven::lasts, 1);
        e.alone("1, though it is now", of("4+1;5;ab"), WellsNotEven::lasts, 1);
        e.alone("not now, but from then on", of("5+1;5;ab"), WellsNotEven::lasts, -2);
        e.alone("2, first, and 4", of("0+1;2;4;ab;ac"), WellsNotEven::lasts, 2);
        e.alone("99", of("0+1;99;ab"), WellsNotEven::lasts, 99);
        e.alone("100", of(HUNDRED), WellsNotEven::lasts, 100);
        e.says(27, "-2: it is on all these.");
        e.alone("101", of(BEYOND), WellsNotEven::lasts, -2);
        e.alone("never", of("5;6;ab"), WellsNotEven::lasts, -2);
        e.alone("none touch", of("5;5"), WellsNotEven::lasts, -2);
        e.alone("no farms", of(""), WellsNotEven::lasts, -2);
    }

    private static void later(Edges e) {
        e.says(28, "DEPTH of a FARM n WEEKS (0 .. 100) on.");
        e.alone("0", of("50+1;10;ab/1"), x -> x.later(0, 0), 50);
        e.alone("1", of("50+1;10;ab/1"), x -> x.later(0, 1), 31);
        e.alone("99", of(HUNDRED), x -> x.later(1, 99), 81);
        e.alone("100", of(HUNDRED), x -> x.later(1, 100), 82);
        e.alone("not beyond 99", of("50+9"), x -> x.later(0, 100), 99);
        e.says(28, "NONE: others.");
        e.alone("101", of("5;5;ab"), x -> x.later(0, 101), -1);
        e.alone("-1", of("5;5;ab"), x -> x.later(0, -1), -1);
        e.alone("the most", of("5;5;ab"), x -> x.later(0, MOST), -1);
        e.alone("the least", of("5;5;ab"), x -> x.later(0, LEAST), -1);
        e.alone("none such", of("5;5;ab"), x -> x.later(2, 0), -1);
        e.alone("none such", of("5;5;ab"), x -> x.later(-1, 0), -1);
        e.alone("no farms", of(""), x -> x.later(0, 0), -1);
    }

    private static void still(Edges e) {
        e.says(29, "After how many WEEKS (0 .. 100) first DEPTHS of all are such as one WEEK more leaves them: how many; the ROW:"
                + " pairs EVEN then.");
        e.asks("0", of("5;5;ab/1"), WellsNotEven::still, 0, 1);
        e.asks("0, full, with springs", of("99+9;5;ab"), WellsNotEven::still, 0, 0);
        e.asks("no farms", of(""), WellsNotEven::still, 0, 0);
        e.asks("1", of("98+9;5;ab"), WellsNotEven::still, 1, 0);
        e.asks("1, even then alone", of("40;0;ab/1"), WellsNotEven::still, 1, 1);
        e.asks("99", of("0+1;98;ab"), WellsNotEven::still, 99, 0);
        e.asks("100: full after 99, then b has one more", of("0+1;81;ab/9"), WellsNotEven::still, 100, 0);
        e.asks("100, even then alone", of(HUNDRED), WellsNotEven::still, 100, 1);
        e.says(29, "-2: not within these.");
        e.alone("101", of("0+1;80;ab/9"), WellsNotEven::still, -2);
        e.alone("101", of(BEYOND), WellsNotEven::still, -2);
    }

    private static void keeps(Edges e) {
        e.says(30, "For how many WEEKS (n at most, 0 .. 12) it can be kept LAWFUL, if ahead of each of them at most k (0 .. 2)"
                + " BUCKETS are carried,");
        e.asks("no week", of("5;5;ab"), x -> x.keeps(0, 0), 0, 0);
        e.asks("no week, two buckets", of("5;5;ab"), x -> x.keeps(0, 2), 0, 0);
        e.asks("12 without buckets", of("5;6;ab"), x -> x.keeps(12, 0), 12, 0);
        e.asks("n at most", of("5;6;ab"), x -> x.keeps(11, 2), 11, 0);
        e.asks("no farms", of(""), x -> x.keeps(12, 2), 12, 0);
        e.asks("one wanted, none carried", of("5;5;ab"), x -> x.keeps(12, 0), 0, 0);
        e.asks("one wanted", of("5;5;ab"), x -> x.keeps(12, 1), 12, 1);
        e.asks("two wanted, one carried", under("5;5;ab", 3), x -> x.keeps(12, 1), 0, 0);
        e.asks("two wanted", under("5;5;ab", 3), x -> x.keeps(12, 2), 12, 2);
        e.asks("three wanted", under("5;5;ab", 5), x -> x.keeps(12, 2), 0, 0);
    }

    private static void keepsFirst(Edges e) {
        e.says(30, "each time those of the first DEPTHS found with which it is LAWFUL when that WEEK went by: how many, till"
                + " there are none such; the ROW: how many BUCKETS in all.");
        e.asks("none, if it is so without", of("5+1;9;ab"), x -> x.keeps(3, 2), 3, 0);
        // 6 and 7 as they are would be 7 and 7: a to b is found first (5 and 8), and two weeks later it is so again;
        // b to a would do once for all.
        e.asks("the first found", of("6+1;7;ab"), x -> x.keeps(12, 1), 12, 6);
        e.asks("not lawful now, but on Sunday: none", of("5+1;5;ab"), x -> x.keeps(12, 2), 12, 0);
        e.asks("lawful now, not on Sunday: one", of("4+1;5;ab"), x -> x.keeps(1, 1), 1, 1);
        e.asks("lawful behind the bucket, not on Sunday: it seeps back", of("5;5;ab/1"), x -> x.keeps(12, 1), 0, 0);
        e.asks("till the third is not", under("5+1;10;ab", 3), x -> x.keeps(12, 0), 2, 0);
        e.asks("till both are full", of("90+9;95+9;ab"), x -> x.keeps(12, 0), 0, 0);
    }

    private static void keepsRefused(Edges e) {
        e.says(30, "-3: more than 3000 by k BUCKETS (all are found first) ahead of one of these WEEKS;");
        // No county has more than 3000 by two: nine farms that all touch, with water and room, have the most.
        e.due("the most by two", Edges.crowd(50).reach(2), 1405);
        e.asks("and they are no more than 3000", () -> Edges.crowd(50), x -> x.keeps(12, 2), 0, 0);
        e.says(30, "NONE: others.");
        e.alone("13", of("5;6;ab"), x -> x.keeps(13, 0), -1);
        e.alone("-1", of("5;6;ab"), x -> x.keeps(-1, 0), -1);
        e.alone("the most", of("5;6;ab"), x -> x.keeps(MOST, 0), -1);
        e.alone("the least", of("5;6;ab"), x -> x.keeps(LEAST, 0), -1);
        e.alone("3 buckets", of("5;6;ab"), x -> x.keeps(0, 3), -1);
        e.alone("-1 buckets", of("5;6;ab"), x -> x.keeps(0, -1), -1);
        e.alone("the most buckets", of("5;6;ab"), x -> x.keeps(12, MOST), -1);
        e.alone("the least buckets", of("5;6;ab"), x -> x.keeps(12, LEAST), -1);
    }

    private static void mercy(Edges e) {
        e.says(31, "How many pairs are EVEN on some SUNDAY of the next n WEEKS (0 .. 100) and have to be let off; the ROW: FARMS"
                + " (bits) of which one at least is in each of these pairs: the fewest, of as few the least.");
        e.asks("0 weeks, though even now", of("5;5;ab"), x -> x.mercy(0), 0, 0);
        e.asks("1 week", of("5;5;ab"), x -> x.mercy(1), 1, 1);
        e.asks("even now, not then", of("5+1;5;ab"), x -> x.mercy(100), 0, 0);
        e.asks("on one alone", of("0+1;2;ab"), x -> x.mercy(100), 1, 1);
        e.asks("99 weeks", of(HUNDRED), x -> x.mercy(99), 0, 0);
        e.asks("100 weeks", of(HUNDRED), x -> x.mercy(100), 1, 2);
        e.asks("101 weeks", of(BEYOND), x -> x.mercy(100), 0, 0);
        e.asks("no farms", of(""), x -> x.mercy(100), 0, 0);
        e.asks("the fewest: d, not abc", of("5;5;5;5;ad;bd;cd"), x -> x.mercy(1), 3, 8);
        e.asks("of as few the least: ac, not bd", of("5;5;5;5;ab;bc;cd;da"), x -> x.mercy(1), 4, 5);
        e.asks("all of nine", () -> Edges.crowd(5), x -> x.mercy(100), 36, 255);
        e.asks("what was asked before does not matter", () -> {
            WellsNotEven x = Check.of("5;5;ab");
            x.mercy(1);
            x.set(0, 0, 9);
            return x;
        }, x -> x.mercy(100), 0, 0);
        e.says(31, "NONE: another n.");
        e.alone("101", of("5;5;ab"), x -> x.mercy(101), -1);
        e.alone("-1", of("5;5;ab"), x -> x.mercy(-1), -1);
        e.alone("the most", of("5;5;ab"), x -> x.mercy(MOST), -1);
        e.alone("the least", of("5;5;ab"), x -> x.mercy(LEAST), -1);
    }

    private static void drought(Edges e) {
        e.says(32, "With the same RAIN (-9 .. 9) each WEEK on all: after how many WEEKS (1 .. 100) all DEPTHS are alike first.");
        e.alone("1, dry", of("9;0"), x -> x.drought(-9), 1);
        e.alone("2, dry", of("10;0"), x -> x.drought(-9), 2);
        e.alone("1, full", of("90;99"), x -> x.drought(9), 1);
        e.alone("2, full", of("89;99"), x -> x.drought(9), 2);
        e.alone("alike now, and then", of("5;5"), x -> x.drought(0), 1);
        e.alone("alike now, not then, and when full", of("97+1;97"), x -> x.drought(1), 2);
        e.alone("all, not two of three", of("97;99;96"), x -> x.drought(1), 3);
        e.alone("nine farms", () -> Edges.crowd(5), x -> x.drought(-9), 1);
        e.alone("99", of("0;5"), x -> x.drought(1), 99);
        // How many weeks these want was counted by another program.
        e.alone("100", of("81+1;64;97;47;81;ac/1;ae/1;bc/7;cd/4;ce/1;de/8"), x -> x.drought(-1), 100);
        e.says(32, "NONE: another RAIN.");
        e.alone("10", of("5;5"), x -> x.drought(10), -1);
        e.alone("-10", of("5;5"), x -> x.drought(-10), -1);
        e.alone("the most", of("5;5"), x -> x.drought(MOST), -1);
        e.alone("the least", of("5;5"), x -> x.drought(LEAST), -1);
        e.alone("10, no farms", of(""), x -> x.drought(10), -1);
    }

    private static void droughtNever(Edges e) {
        e.says(32, "-2: never in them, or fewer than two FARMS;");
        e.alone("101", of("87+1;64;99;47;77;ac/1;ae/1;bc/7;cd/4;ce/1;de/8"), x -> x.drought(-1), -2);
        e.alone("alike now, then not", of("5+1;5"), x -> x.drought(0), -2);
        e.alone("never", of("5;6"), x -> x.drought(0), -2);
        e.alone("one farm", of("5"), x -> x.drought(-9), -2);
        e.alone("no farms", of(""), x -> x.drought(9), -2);
    }

    private static void clash(Edges e) {
        e.says(33, "After how many WEEKS (1 .. 100) two are EVEN first.");
        e.alone("1", of("5;5;ab"), x -> x.clash(0, 1), 1);
        e.alone("1, though not now", of("4+1;5;ab"), x -> x.clash(1, 0), 1);
        e.alone("these two, not the first that are", of("0+1;2;4;ab;ac"), x -> x.clash(0, 2), 4);
        e.alone("100", of(HUNDRED), x -> x.clash(1, 2), 100);
        e.says(33, "-2: they do not TOUCH, or are not in these;");
        e.alone("101", of(BEYOND), x -> x.clash(2, 1), -2);
        e.alone("alike, and do not touch", of("5;5;5;ab"), x -> x.clash(0, 2), -2);
        e.alone("now alone", of("5+1;5;ab"), x -> x.clash(0, 1), -2);
        e.says(33, "NONE: none such, like ones.");
        e.alone("none such", of("5;5;ab"), x -> x.clash(0, 2), -1);
        e.alone("none such", of("5;5;ab"), x -> x.clash(2, 0), -1);
        e.alone("none such", of("5;5;ab"), x -> x.clash(-1, 0), -1);
        e.alone("none such", of("5;5;ab"), x -> x.clash(LEAST, MOST), -1);
        e.alone("like ones", of("5;5;ab"), x -> x.clash(1, 1), -1);
        e.alone("no farms", of(""), x -> x.clash(0, 1), -1);
    }

    private static void payer(Edges e) {
        e.says(34, "The FARM that pays the most in the next n WEEKS (0 .. 100); of equal ones the first: it; the ROW: how much,"
                + " what all pay.");
        e.asks("0 weeks, though even now", of("5;5;ab"), x -> x.payer(0), 0, 0, 0);
        e.asks("of equal ones the first", of("9;5;5;bc"), x -> x.payer(1), 1, 1, 2);
        e.asks("the last pays the most", of("5;5;5;ac;bc"), x -> x.payer(1), 2, 2, 4);
        e.asks("nobody pays: the first", of("5;6;ab"), x -> x.payer(100), 0, 0, 0);
        e.asks("99 weeks", of(HUNDRED), x -> x.payer(99), 0, 0, 0);
        e.asks("100 weeks", of(HUNDRED), x -> x.payer(100), 1, 1, 2);
        e.asks("the most that can be", () -> {
            WellsNotEven x = Edges.crowd(5);
            x.law(1, 9);
            return x;
        }, x -> x.payer(100), 0, 7200, 64800);
        e.asks("a fine of 0", () -> {
            WellsNotEven x = Check.of("7;5;5;bc");
            x.law(1, 0);
            return x;
        }, x -> x.payer(100), 0, 0, 0);
        e.asks("what was asked before does not matter", () -> {
            WellsNotEven x = Check.of("5;5;ab");
            x.payer(100);
            return x;
        }, x -> x.payer(1), 0, 1, 2);
        e.says(34, "-2: no FARMS;");
        e.alone("0 weeks", of(""), x -> x.payer(0), -2);
        e.alone("100 weeks", of(""), x -> x.payer(100), -2);
        e.says(34, "NONE: another n.");
        e.alone("101", of("5;5;ab"), x -> x.payer(101), -1);
        e.alone("-1", of("5;5;ab"), x -> x.payer(-1), -1);
        e.alone("the most", of("5;5;ab"), x -> x.payer(MOST), -1);
        e.alone("the least", of("5;5;ab"), x -> x.payer(LEAST), -1);
        e.alone("101, no farms", of(""), x -> x.payer(101), -1);
    }

    private static void prays(Edges e) {
        e.says(35, "The RAIN (-9 .. 9) on FARMS told as bits in the next WEEK with which the fewest pairs are EVEN behind it; of"
                + " as good ones the least size, then below 0: it; the ROW: how many pairs.");
        e.asks("on none", of("5;5;ab"), x -> x.pray(0), 0, 1);
        e.asks("no farms", of(""), x -> x.pray(0), 0, 0);
        e.asks("all as good: 0", of("5;5;ab"), x -> x.pray(3), 0, 1);
        e.asks("none even: 0", of("5;6;ab"), x -> x.pray(1), 0, 0);
        e.asks("the least size, below 0", of("5;5;ab"), x -> x.pray(1), -1, 0);
        e.asks("the least size above 0, a greater one below", under("5;4;ab", 2), x -> x.pray(1), 1, 0);
        e.asks("none below 0 at 0", of("0;0;ab"), x -> x.pray(1), 1, 0);
        e.asks("9, the only one", under("8;8;ab", 9), x -> x.pray(1), 9, 0);
        e.asks("-9, the only one", under("91;91;ab", 9), x -> x.pray(1), -9, 0);
        e.asks("the fewest, not the first fewer", under("50;50;45;ab;ac", 3), x -> x.pray(1), 3, 0);
        e.asks("on the last of nine", () -> Edges.crowd(5), x -> x.pray(256), -1, 28);
        e.says(35, "-10: bits of none such.");
        e.alone("bit 2 of two", of("5;5;ab"), x -> x.pray(4), -10);
        e.alone("with one that is there", of("5;5;ab"), x -> x.pray(5), -10);
        e.alone("all bits", of("5;5;ab"), x -> x.pray(-1), -10);
        e.alone("the highest bit", of("5;5;ab"), x -> x.pray(LEAST), -10);
        e.alone("no farms", of(""), x -> x.pray(1), -10);
        e.alone("a tenth", () -> Edges.crowd(5), x -> x.pray(512), -10);
    }

    private static void seal(Edges e) {
        e.says(36, "The pair whose STONE, made tight, lets lasts() be the greatest (not within 100 is greater than any);");
        e.asks("100 and never: never", of("50;49;60+1;21;82;ab/9;cd/9;de"), WellsNotEven::seal, 2, 3, -2);
        e.asks("1 and 100: 100", of("40;0;60+1;21;82;ab/1;cd/9;de"), WellsNotEven::seal, 0, 1, 100);
        e.asks("the only one, worse than as it is", of("60+1;20;99;ab/9;ac"), WellsNotEven::seal, 0, 1, 39);
        e.says(36, "of equal ones the first (the lesser first): its first FARM; the ROW: the other one, after how many WEEKS then"
                + " (-2: not within 100).");
        e.asks("both never: the first", of("50;49;60+1;20;82;ab/9;cd/9;de"), WellsNotEven::seal, 0, 1, -2);
        e.asks("both 1: the first", of("5;5;9;9;dc/9;ba/9"), WellsNotEven::seal, 0, 1, 1);
        e.asks("of one farm, the lesser other one", of("5;5;5;ca/9;ba/9"), WellsNotEven::seal, 0, 1, 1);
        e.asks("the last pair", of("5;5;5;5;5;5;5;5;5;ih/1;ab"), WellsNotEven::seal, 7, 8, 1);
        e.asks("all of 36 pairs: the first", () -> stony(9), WellsNotEven::seal, 0, 1, 1);
        e.says(36, "-2: no STONE that is not tight.");
        e.alone("36 tight ones", () -> stony(0), WellsNotEven::seal, -2);
        e.alone("all tight", of("5;5;ab/0"), WellsNotEven::seal, -2);
        e.alone("none touch", of("5;5"), WellsNotEven::seal, -2);
        e.alone("no farms", of(""), WellsNotEven::seal, -2);
    }

    /** Nine farms of one depth, of which all touch, with such a stone. */
    private static WellsNotEven stony(int stone) {
        WellsNotEven x = Edges.crowd(5);
        for (int a = 0; a < 9; a++) {
            for (int b = 0; b < a; b++) {
                x.touch(a, b, stone);
            }
        }
        return x;
    }

    private static void road(Edges e) {
        e.says(37, "By how many FARMS that TOUCH one behind the other a BUCKET would go from one to another one: how many steps"
                + " (0: the same); the ROW: FARMS between: of as few steps the least row.");
        e.asks("the same", of("5;5;ab"), x -> x.road(1, 1), 0);
        e.asks("one", of("5;5;ab/0"), x -> x.road(1, 0), 1);
        e.asks("two, the least between", of("5;5;5;5;ad;dc;ab;bc"), x -> x.road(0, 2), 2, 1);
        e.asks("the fewest, though a longer one has a lesser row", of("5;5;5;5;5;ab;bc;ce;ad;de"), x -> x.road(0, 4), 2, 3);
        e.asks("the least between is the first farm", of("5;5;5;5;bd;dc;ba;ac"), x -> x.road(1, 2), 2, 0);
        e.asks("the most", of("5;5;5;5;5;5;5;5;5;ab;bc;cd;de;ef;fg;gh;hi"), x -> x.road(8, 0), 8, 7, 6, 5, 4, 3, 2, 1);
        e.says(37, "-2: none leads there;");
        e.alone("none leads there", of("5;5;5;5;ab;cd"), x -> x.road(1, 2), -2);
        e.says(37, "NONE: none such.");
        e.alone("none such", of("5;5;ab"), x -> x.road(0, 2), -1);
        e.alone("none such", of("5;5;ab"), x -> x.road(2, 0), -1);
        e.alone("none such, the same", of("5;5;ab"), x -> x.road(2, 2), -1);
        e.alone("none such", of("5;5;ab"), x -> x.road(-1, 0), -1);
        e.alone("none such", of("5;5;ab"), x -> x.road(MOST, LEAST), -1);
        e.alone("no farms", of(""), x -> x.road(0, 0), -1);
        e.says(37, "(What they have does not matter.)");
        e.asks("dry", of("0;0;ab"), x -> x.road(0, 1), 1);
        e.asks("full", of("99;99;99;ab;bc"), x -> x.road(0, 2), 2, 1);
    }

    private static void boon(Edges e) {
        e.says(38, "The FARM whose SPRING, 1 more (9 at most), lets lasts() be the greatest (not within 100 is greater than"
                + " any);");
        e.asks("100 and never: never", of("5;60+1;21;82;bc/9;cd"), WellsNotEven::boon, 3, -2, 100);
        e.asks("10 and 50: 50", of("0+2;20+1;ab"), WellsNotEven::boon, 1, 50, 20);
        e.asks("9 at most: b, not a", of("0+9;45;ab"), WellsNotEven::boon, 1, 54, 5);
        e.asks("all have 9", of("0+9;45+9;ab"), WellsNotEven::boon, 0, 11, 11);
        e.says(38, "of equal ones the first: it; the ROW: after how many WEEKS then (-2: not within 100), as it is (likewise).");
        e.asks("all never: the first", of("5;60+1;20;82;bc/9;cd"), WellsNotEven::boon, 0, -2, -2);
        e.asks("never by the last alone", of("60+1;20;82;ab/9;bc"), WellsNotEven::boon, 2, -2, -2);
        e.asks("all 1: the first", of("5;5;9;9;ab/9;cd/9"), WellsNotEven::boon, 0, 1, 1);
        e.asks("one farm", of("5+9"), WellsNotEven::boon, 0, -2, -2);
        e.asks("nine farms", () -> Edges.crowd(5), WellsNotEven::boon, 0, 1, 1);
        e.says(38, "-2: no FARMS.");
        e.alone("no farms", of(""), WellsNotEven::boon, -2);
    }
}
