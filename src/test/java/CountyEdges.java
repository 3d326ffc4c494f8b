import java.util.function.Supplier;

/** The boundary cases that promises 1 to 10 name. */
final class CountyEdges {
    private static final int LEAST = Integer.MIN_VALUE;
    private static final int MOST = Integer.MAX_VALUE;

    private CountyEdges() {
    }

    static void all(Edges e) {
        newObject(e);
        sign(e);
        end(e);
        countyEmpty(e);
        countySigns(e);
        countyTooLong(e);
        countyLetters(e);
        countyNoRoom(e);
        countyNothing(e);
        farm(e);
        stone(e);
        touch(e);
        law(e);
        set(e);
        sheetEntries(e);
        sheetRefused(e);
    }

    private static void newObject(Edges e) {
        e.says(1, "No FARMS.");
        WellsNotEven x = new WellsNotEven();
        e.due("FARMS", x.count(0), 0);
        e.due("pairs", x.count(4), 0);
        e.due("no farm a", Check.county(x, "a"), -1);
        e.due("none even", x.even(), 0);
    }

    private static void sign(Edges e) {
        e.says(2, "Four signs come behind THE TEXT, of v the highest byte first: how many it has.");
        WellsNotEven x = new WellsNotEven();
        e.due("the first four", x.sign('1' << 24 | '2' << 16 | ';' << 8 | '3'), 4);
        e.due("four behind them", x.sign('4' << 24 | ';' << 16 | '5' << 8 | '6'), 8);
        e.due("in their order", x.county(), 3);
        e.depths("in their order", x, 12, 34, 56);
        e.due("below 0: signs of 255", x.sign(-1), 4);
        e.due("a sign of 255 is no letter", x.county(), -1);
        x.sign('7' << 24);
        e.due("a sign of 0 counts, and can't stand", x.county(), -2);
        e.says(2, "Refused: there would be more than 80.");
        WellsNotEven y = new WellsNotEven();
        for (int i = 1; i <= 20; i++) {
            e.due("up to 80", y.sign('a' << 24), 4 * i);
        }
        for (int signs = 80; signs >= 77; signs--) {
            e.due("of " + signs, y.end(signs), true);
            e.due("4 more than " + signs, y.sign(LEAST), -1);
            e.due("all of them stay", y.count(8), signs);
        }
        y.end(76);
        e.due("4 more than 76", y.sign(MOST), 80);
        y.end(0);
        for (int i = 0; i < 18; i++) {
            y.sign('9' << 24 | ';' << 16 | '9' << 8 | ';');
        }
        e.due("none of a refused one came: 80 signs, a tenth farm", y.county(), -19);
    }

    private static void end(Edges e) {
        e.says(3, "THE TEXT has its first n signs alone: true;");
        WellsNotEven x = new WellsNotEven();
        e.due("0 of none", x.end(0), true);
        Check.tell(x, "12;3");
        e.due("as many as it has", x.end(4), true);
        e.due("they stay", x.count(8), 4);
        e.due("two", x.end(2), true);
        Check.tell(x, "+7");
        e.due("signs come behind the first two", x.county(), 1);
        e.due("12+7", x.farm(0, 0) * 10 + x.farm(0, 1), 127);
        Check.tell(x, "12;3");
        e.due("none of four", x.end(0), true);
        e.due("it is empty", x.county(), 0);
        e.says(3, "false if it has not so many, or n is below 0.");
        Supplier<WellsNotEven> four = () -> {
            WellsNotEven y = new WellsNotEven();
            y.sign('4' << 24 | '2' << 16 | '+' << 8 | '6');
            return y;
        };
        e.alone("one more", four, y -> Edges.bit(y.end(5)), 0);
        e.alone("the most", four, y -> Edges.bit(y.end(MOST)), 0);
        e.alone("-1", four, y -> Edges.bit(y.end(-1)), 0);
        e.alone("the least", four, y -> Edges.bit(y.end(LEAST)), 0);
        e.alone("1 of none", WellsNotEven::new, y -> Edges.bit(y.end(1)), 0);
        WellsNotEven cut = four.get();
        cut.end(2);
        e.due("those that were cut do not come back", cut.end(3), false);
        e.due("42", cut.county(), 1);
        e.due("no spring", cut.farm(0, 1), 0);
    }

    private static void countyEmpty(Edges e) {
        e.says(4, "THE TEXT tells of THE COUNTY (an empty one: nothing): how many LINES.");
        e.alone("an empty one", Edges.made("5;6;ab/3"), WellsNotEven::county, 0);
        e.alone("an empty one of no farms", WellsNotEven::new, WellsNotEven::county, 0);
        e.due("one line", Check.county(new WellsNotEven(), "5"), 1);
        e.due("lines, not farms: told anew", Check.county(Check.of("5;6"), "ab;ba;ab"), 3);
        WellsNotEven x = Check.of("1;1;1;1;1;1;1;1;1");
        e.due("the most lines", Check.county(x, "ab;".repeat(25) + "a"), -77);
        e.due("the most lines", Check.county(x, "ab;".repeat(24) + "ab"), 25);
    }

    private static void fault(Edges e, String text, int p) {
        Supplier<WellsNotEven> made = Edges.made("10;20;ab/5");
        e.alone("'" + text + "' at " + p, made, x -> Check.county(x, text), -1 - p);
    }

    private static void countySigns(Edges e) {
        e.says(4, "-1 - p: the sign at p can't stand there (its end, if it ends too early;");
        fault(e, "/", 0);
        fault(e, ":", 0);
        fault(e, "{", 0);
        fault(e, "1:", 1);
        fault(e, "1/3", 1);
        fault(e, "12/3", 2);
        fault(e, "12+/", 3);
        fault(e, "12+:", 3);
        fault(e, "1;2+3a", 5);
        fault(e, "ab+", 2);
        fault(e, "ab/:", 3);
        fault(e, "ab//", 3);
        fault(e, "ab/3+", 4);
        fault(e, "a", 1);
        fault(e, "a;", 1);
        fault(e, "ab;", 3);
        fault(e, "ab/", 3);
        fault(e, "1+", 2);
        fault(e, "1;", 2);
        fault(e, "1;2+3;", 6);
        fault(e, "ab;ba;a", 7);
    }

    private static void countyTooLong(Edges e) {
        e.says(4, "76, if it has more and the first 76 could go on or end;");
        String lines = "1;1;" + "ab;".repeat(23);
        e.due("signs", lines.length(), 73);
        e.due("76 that end", Check.county(new WellsNotEven(), lines + "1+1"), 26);
        e.due("76 that could end, and one more", Check.county(new WellsNotEven(), lines + "1+1x"), -77);
        e.due("76 that could go on, and one more", Check.county(new WellsNotEven(), lines + "ab;x"), -77);
        e.due("76 that could go on with a digit", Check.county(new WellsNotEven(), lines + "ab/x"), -77);
        e.due("76 alone that end too early: at its end", Check.county(new WellsNotEven(), lines + "ab/"), -77);
        e.due("the 76th can't stand", Check.county(new WellsNotEven(), lines + "abx1"), -76);
        e.due("the 75th can't stand", Check.county(new WellsNotEven(), lines + "aa;1234"), -75);
        e.due("80 of them", Check.county(new WellsNotEven(), lines + "ab/1;ab"), -77);
    }

    private static void countyLetters(Edges e) {
        e.says(4, "a letter of none that is there, or the same again: at it;");
        fault(e, "c", 0);
        fault(e, "ca", 0);
        fault(e, "ac", 1);
        fault(e, "i", 0);
        fault(e, "aa", 1);
        fault(e, "bb/3", 1);
        fault(e, "ab;ba;bb", 7);
        fault(e, "7;ac;ad", 6);
        fault(e, "ac;7", 1);
        fault(e, "A", 0);
        e.due("none are there", Check.county(new WellsNotEven(), "ab"), -1);
        e.due("one is", Check.county(new WellsNotEven(), "1;ab"), -4);
        e.due("c comes with the text", Check.county(Check.of("1;2"), "3;ca/4"), 2);
    }

    private static void countyNoRoom(Edges e) {
        e.says(4, "the first sign of a FARM for which there is no room).");
        WellsNotEven eight = Check.of("1;1;1;1;1;1;1;1");
        e.due("two for one place", Check.county(eight, "12+3;45+6"), -6);
        e.due("nothing came", eight.count(0), 8);
        e.due("one for one place", Check.county(eight, "12+3"), 1);
        e.alone("one for none", Edges.made("1;1;1;1;1;1;1;1;1"), x -> Check.county(x, "12"), -1);
        e.alone("behind a line", Edges.made("1;1;1;1;1;1;1;1;1"), x -> Check.county(x, "ab;12"), -4);
        e.due("ten at once", Check.county(new WellsNotEven(), "11;".repeat(9) + "22"), -28);
        e.due("pairs have room", Check.county(eight, "ab"), 1);
    }

    private static void countyNothing(Edges e) {
        e.says(4, "Nothing of it comes, if a LINE can't.");
        e.alone("neither farms nor stones", Edges.made("10;20;ab/5"), x -> Check.county(x, "7;ab/9;bc;x"), -11);
        e.alone("the last sign alone", Edges.made("10;20;ab/5"), x -> Check.county(x, "ab/9;30+"), -9);
        WellsNotEven x = Check.of("5;6");
        x.week(0, 0);
        Check.county(x, "7;8;");
        e.due("nor is anything forgotten", x.count(5), 1);
        e.due("a good one comes behind what there was", Check.county(x, "7;ac"), 2);
        e.depths("a good one", x, 5, 6, 7);
    }

    private static void farm(Edges e) {
        e.says(5, "Of a FARM, what 0: DEPTH, 1: SPRING, 2: those that TOUCH it (bits), 3: those with which it is EVEN (bits), 4:"
                + " what it paid in all.");
        WellsNotEven x = Check.of("9;9;9;9;9;9;9;9;99+9;ai;hi;ab");
        e.due("DEPTH", x.farm(8, 0), 99);
        e.due("SPRING", x.farm(8, 1), 9);
        e.due("the first and the last but one", x.farm(8, 2), 129);
        e.due("none touches", x.farm(3, 2), 0);
        e.due("the last", x.farm(7, 2), 256);
        e.due("even with none", x.farm(8, 3), 0);
        e.due("even with one", x.farm(0, 3), 2);
        x.set(0, 0, 99);
        e.due("even with the last", x.farm(0, 3), 256);
        x.law(1, 9);
        x.weeks(2);
        e.due("paid", x.farm(0, 4), 18);
        x.weeks(1);
        e.due("in all", x.farm(8, 4), 27);
        e.says(5, "NoSuchElementException: none such, another what.");
        Supplier<WellsNotEven> two = Edges.made("1;2;ab");
        e.none("farm(2, 0)", two, y -> y.farm(2, 0));
        e.none("farm(-1, 0)", two, y -> y.farm(-1, 0));
        e.none("farm(most, 1)", two, y -> y.farm(MOST, 1));
        e.none("farm(least, 2)", two, y -> y.farm(LEAST, 2));
        e.none("farm(0, 5)", two, y -> y.farm(0, 5));
        e.none("farm(1, -1)", two, y -> y.farm(1, -1));
        e.none("farm(1, most)", two, y -> y.farm(1, MOST));
        e.none("farm(1, least)", two, y -> y.farm(1, LEAST));
        e.none("both", two, y -> y.farm(2, 5));
        e.none("no farms", WellsNotEven::new, y -> y.farm(0, 0));
        e.none("ten", () -> Edges.crowd(5), y -> y.farm(9, 0));
    }

    private static void stone(Edges e) {
        e.says(6, "STONE between two FARMS.");
        WellsNotEven x = Check.of("1;1;1;1;1;1;1;1;1;ai/9;hi/1;ab");
        e.due("9", x.stone(8, 0), 9);
        e.due("1", x.stone(7, 8), 1);
        e.due("tight", x.stone(0, 1), 0);
        e.says(6, "-2: they do not TOUCH;");
        e.alone("they do not", Edges.made("1;2;3;ab/4"), y -> y.stone(2, 0), -2);
        e.says(6, "NONE: none such, like ones.");
        Supplier<WellsNotEven> three = Edges.made("1;2;3;ab/4");
        e.alone("none such", three, y -> y.stone(0, 3), -1);
        e.alone("none such", three, y -> y.stone(3, 0), -1);
        e.alone("none such", three, y -> y.stone(-1, 1), -1);
        e.alone("none such", three, y -> y.stone(1, LEAST), -1);
        e.alone("none such", three, y -> y.stone(MOST, 1), -1);
        e.alone("none such, like ones", three, y -> y.stone(3, 3), -1);
        e.alone("like ones", three, y -> y.stone(0, 0), -1);
        e.alone("like ones, that touch none", three, y -> y.stone(2, 2), -1);
        e.alone("no farms", WellsNotEven::new, y -> y.stone(0, 1), -1);
    }

    private static void touch(Edges e) {
        e.says(7, "Two unlike ones TOUCH with a STONE (0 .. 9), or do not (NONE): true.");
        WellsNotEven x = Check.of("1;2");
        e.due("9", x.touch(0, 1, 9), true);
        e.due("9", x.stone(1, 0), 9);
        e.due("0", x.touch(1, 0, 0), true);
        e.due("0", x.stone(0, 1), 0);
        e.due("NONE", x.touch(0, 1, -1), true);
        e.due("NONE", x.stone(0, 1), -2);
        e.due("NONE once more", x.touch(1, 0, -1), true);
        e.due("no pairs", x.count(4), 0);
        e.says(7, "Refused: others.");
        Supplier<WellsNotEven> two = Edges.made("1;2;ab/4");
        e.alone("10", two, y -> Edges.bit(y.touch(0, 1, 10)), 0);
        e.alone("-2", two, y -> Edges.bit(y.touch(0, 1, -2)), 0);
        e.alone("most", two, y -> Edges.bit(y.touch(0, 1, MOST)), 0);
        e.alone("least", two, y -> Edges.bit(y.touch(0, 1, LEAST)), 0);
        e.alone("like ones", two, y -> Edges.bit(y.touch(0, 0, 1)), 0);
        e.alone("like ones, NONE", two, y -> Edges.bit(y.touch(1, 1, -1)), 0);
        e.alone("none such", two, y -> Edges.bit(y.touch(0, 2, 1)), 0);
        e.alone("none such", two, y -> Edges.bit(y.touch(2, 0, -1)), 0);
        e.alone("none such", two, y -> Edges.bit(y.touch(-1, 0, 1)), 0);
        e.alone("no farms", WellsNotEven::new, y -> Edges.bit(y.touch(0, 1, 0)), 0);
    }

    private static void law(Edges e) {
        e.says(8, "THE LAW: what becomes v: what it was.");
        for (int what = 0; what <= 2; what++) {
            WellsNotEven x = new WellsNotEven();
            int least = what == 1 ? 0 : 1;
            e.due("law " + what + ", at first", x.law(what, 9), 1);
            e.due("law " + what + ", the most", x.law(what, least), 9);
            e.due("law " + what + ", the least", x.law(what, 5), least);
            e.due("law " + what + ", the same", x.law(what, 5), 5);
        }
        e.says(8, "Refused: others.");
        Supplier<WellsNotEven> made = () -> {
            WellsNotEven x = Check.of("5;6;ab");
            x.law(0, 2);
            x.law(1, 3);
            x.law(2, 4);
            x.even();
            return x;
        };
        e.alone("APART 0", made, x -> x.law(0, 0), -1);
        e.alone("APART 10", made, x -> x.law(0, 10), -1);
        e.alone("APART -1", made, x -> x.law(0, -1), -1);
        e.alone("FINE -1", made, x -> x.law(1, -1), -1);
        e.alone("FINE 10", made, x -> x.law(1, 10), -1);
        e.alone("BUCKET 0", made, x -> x.law(2, 0), -1);
        e.alone("BUCKET 10", made, x -> x.law(2, 10), -1);
        e.alone("BUCKET the least", made, x -> x.law(2, LEAST), -1);
        e.alone("what 3", made, x -> x.law(3, 1), -1);
        e.alone("what -1", made, x -> x.law(-1, 1), -1);
        e.alone("what the most", made, x -> x.law(MOST, 1), -1);
        e.alone("what the least", made, x -> x.law(LEAST, 1), -1);
    }

    private static void set(Edges e) {
        e.says(9, "DEPTH (what 0; 0 .. 99), SPRING (1; 0 .. 9) of a FARM becomes v: what it was.");
        WellsNotEven x = Check.of("50+5;1;1;1;1;1;1;1;40+4");
        e.due("DEPTH 0", x.set(0, 8, 0), 40);
        e.due("DEPTH 99", x.set(0, 8, 99), 0);
        e.due("DEPTH was", x.set(0, 8, 1), 99);
        e.due("SPRING 0", x.set(1, 0, 0), 5);
        e.due("SPRING 9", x.set(1, 0, 9), 0);
        e.due("SPRING was", x.set(1, 0, 1), 9);
        e.due("the other stays", x.farm(8, 1), 4);
        e.due("the other stays", x.farm(0, 0), 50);
        e.says(9, "Refused: others.");
        Supplier<WellsNotEven> two = Edges.made("1+1;2;ab");
        e.alone("DEPTH 100", two, y -> y.set(0, 0, 100), -1);
        e.alone("DEPTH -1", two, y -> y.set(0, 0, -1), -1);
        e.alone("SPRING 10", two, y -> y.set(1, 0, 10), -1);
        e.alone("SPRING -1", two, y -> y.set(1, 0, -1), -1);
        e.alone("SPRING the most", two, y -> y.set(1, 0, MOST), -1);
        e.alone("what 2", two, y -> y.set(2, 0, 1), -1);
        e.alone("what -1", two, y -> y.set(-1, 0, 1), -1);
        e.alone("none such", two, y -> y.set(0, 2, 1), -1);
        e.alone("none such", two, y -> y.set(1, -1, 1), -1);
        e.alone("none such", two, y -> y.set(1, LEAST, 1), -1);
        e.alone("no farms", WellsNotEven::new, y -> y.set(0, 0, 1), -1);
    }

    private static void sheet(Edges e, String what, int[] call, int want, int... depths) {
        WellsNotEven x = Check.of("7+3;7;7");
        e.due(what, x.sheet(call[0], call[1], call[2], call[3]), want);
        e.depths(what, x, depths);
        e.due(what + ": springs stay", x.farm(0, 1), 3);
    }

    private static void sheetEntries(Edges e) {
        e.says(10, "DEPTHS of FARMS 0, 1, .., as a sheet tells them: bytes (kind 0), shorts (1), ints (2) of n entries f, f +"
                + " step, .. (of bytes, shorts the lowest bits, with their sign; put to 0 .. 99),");
        sheet(e, "99, 100, 101", new int[] {2, 3, 99, 1}, 297, 99, 99, 99);
        sheet(e, "1, 0, -1", new int[] {2, 3, 1, -1}, 1, 1, 0, 0);
        sheet(e, "bytes 126, 127, 128", new int[] {0, 3, 126, 1}, 198, 99, 99, 0);
        sheet(e, "shorts 126, 127, 128", new int[] {1, 3, 126, 1}, 297, 99, 99, 99);
        sheet(e, "bytes 255, 256, 257", new int[] {0, 3, 255, 1}, 1, 0, 0, 1);
        sheet(e, "shorts 255, 256, 257", new int[] {1, 3, 255, 1}, 297, 99, 99, 99);
        sheet(e, "bytes -255, -256, -257", new int[] {0, 3, -255, -1}, 1, 1, 0, 0);
        sheet(e, "shorts 32766, 32767, 32768", new int[] {1, 3, 32766, 1}, 198, 99, 99, 0);
        sheet(e, "ints 32766, 32767, 32768", new int[] {2, 3, 32766, 1}, 297, 99, 99, 99);
        sheet(e, "shorts 65535, 65536, 65537", new int[] {1, 3, 65535, 1}, 1, 0, 0, 1);
        sheet(e, "ints round the most", new int[] {2, 3, MOST, 1}, 99, 99, 0, 0);
        sheet(e, "ints round the least", new int[] {2, 3, LEAST, -1}, 198, 0, 99, 99);
        sheet(e, "shorts round the most", new int[] {1, 3, MOST, 2}, 4, 0, 1, 3);
        sheet(e, "steps that wrap around", new int[] {2, 3, 5, LEAST}, 10, 5, 0, 5);
        e.says(10, "or a missing one (3): those behind it have 0: the sum of all.");
        sheet(e, "no entries", new int[] {2, 0, 50, 1}, 0, 0, 0, 0);
        sheet(e, "one entry", new int[] {2, 1, 50, 1}, 50, 50, 0, 0);
        sheet(e, "one fewer", new int[] {1, 2, 50, 1}, 101, 50, 51, 0);
        sheet(e, "just as many", new int[] {0, 3, 50, 1}, 153, 50, 51, 52);
        sheet(e, "nine, of which six are for none", new int[] {2, 9, 50, 1}, 153, 50, 51, 52);
        WellsNotEven nine = Edges.crowd(5);
        e.due("nine", nine.sheet(2, 9, 99, 0), 891);
        e.due("all full", nine.count(2), 891);
        e.due("no farms", new WellsNotEven().sheet(2, 9, 50, 1), 0);
    }

    private static void sheetRefused(Edges e) {
        Supplier<WellsNotEven> made = Edges.made("7+3;7;7;ab/2");
        e.says(10, "-2: n below 0 (of kinds 0 .. 2; nothing changes);");
        for (int kind = 0; kind <= 2; kind++) {
            int k = kind;
            e.alone("kind " + k + ", -1", made, x -> x.sheet(k, -1, 5, 5), -2);
            e.alone("kind " + k + ", least", made, x -> x.sheet(k, LEAST, 5, 5), -2);
        }
        e.says(10, "-3: missing (all 0).");
        sheet(e, "missing", new int[] {3, 3, 50, 1}, -3, 0, 0, 0);
        sheet(e, "missing, no entries", new int[] {3, 0, 50, 1}, -3, 0, 0, 0);
        sheet(e, "missing, nine", new int[] {3, 9, 50, 1}, -3, 0, 0, 0);
        sheet(e, "missing, n below 0", new int[] {3, -1, 50, 1}, -3, 0, 0, 0);
        sheet(e, "missing, the least n", new int[] {3, LEAST, 50, 1}, -3, 0, 0, 0);
        e.due("missing, no farms", new WellsNotEven().sheet(3, 0, 0, 0), -3);
        e.says(10, "NONE: another kind, n above 9 (these first).");
        e.alone("kind 4", made, x -> x.sheet(4, 3, 5, 5), -1);
        e.alone("kind -1", made, x -> x.sheet(-1, 3, 5, 5), -1);
        e.alone("kind 4, n below 0", made, x -> x.sheet(4, -1, 5, 5), -1);
        e.alone("the least kind, n below 0", made, x -> x.sheet(LEAST, -1, 5, 5), -1);
        for (int kind = 0; kind <= 4; kind++) {
            int k = kind;
            e.alone("n 10, kind " + k, made, x -> x.sheet(k, 10, 5, 5), -1);
            e.alone("the most n, kind " + k, made, x -> x.sheet(k, MOST, 5, 5), -1);
        }
    }
}
