/** Promises 1 to 10: the county. */
public final class CountyTest {
    private static final Check c = new Check("CountyTest");

    public static void main(String[] args) {
        newObject();
        sign();
        end();
        countyGood();
        countyFaults();
        countyLongest();
        countyAndUndo();
        farm();
        stoneAndTouch();
        law();
        set();
        sheet();
        c.finish();
    }

    private static void newObject() {
        WellsNotEven x = new WellsNotEven();
        for (int what = 0; what <= 8; what++) {
            c.due("new count(" + what + ")", x.count(what), 0);
        }
        c.due("NONE", WellsNotEven.NONE, -1);
        c.due("APART at first", x.law(0, 9), 1);
        c.due("FINE at first", x.law(1, 9), 1);
        c.due("BUCKET at first", x.law(2, 9), 1);
        c.noFarm("new", x, 0, 0);
        c.noRow("new", x, 0);
    }

    private static void sign() {
        WellsNotEven x = new WellsNotEven();
        c.due("the highest byte first", x.sign('1' << 24 | '2' << 16 | '+' << 8 | '3'), 4);
        c.due("12+3", x.county(), 1);
        c.due("depth", x.farm(0, 0), 12);
        c.due("spring", x.farm(0, 1), 3);
        for (int i = 1; i <= 20; i++) {
            c.due("sign " + i, x.sign(0xFFFFFFFF), 4 * i);
        }
        c.due("beyond 80", x.sign(0), -1);
        c.due("80 stay", x.count(8), 80);
        x.end(77);
        c.due("81 would be too many", x.sign(0), -1);
        x.end(76);
        c.due("80 are not", x.sign(0), 80);
    }

    private static void end() {
        WellsNotEven x = new WellsNotEven();
        c.due("end(0) of none", x.end(0), true);
        c.due("end(1) of none", x.end(1), false);
        x.sign('4' << 24 | '2' << 16);
        c.due("end(-1)", x.end(-1), false);
        c.due("end(least)", x.end(Integer.MIN_VALUE), false);
        c.due("end(5)", x.end(5), false);
        c.due("all stay", x.count(8), 4);
        c.due("end(4)", x.end(4), true);
        c.due("end(2)", x.end(2), true);
        c.due("two stay", x.count(8), 2);
        c.due("the first two", x.county(), 1);
        c.due("42", x.farm(0, 0), 42);
    }

    private static void countyGood() {
        WellsNotEven x = new WellsNotEven();
        c.due("empty", x.county(), 0);
        c.due("two farms", Check.county(x, "7;08+9"), 2);
        c.depths("two farms", x, 7, 8);
        c.due("no spring", x.farm(0, 1), 0);
        c.due("a spring", x.farm(1, 1), 9);
        c.due("behind what there is", Check.county(x, "99;ac/4;ba"), 3);
        c.depths("three farms", x, 7, 8, 99);
        c.due("ac", x.stone(0, 2), 4);
        c.due("ba", x.stone(0, 1), 0);
        c.due("told anew", Check.county(x, "ca;ab/3;ab/9;bc/0"), 4);
        c.due("ca tight", x.stone(2, 0), 0);
        c.due("ab at last", x.stone(0, 1), 9);
        c.due("/0 is tight", x.stone(1, 2), 0);
        c.due("pairs", x.count(4), 3);
        c.due("THE TEXT is read", x.count(8), 0);
    }

    private static void fault(String text, int p) {
        WellsNotEven x = Check.of("1;2;ab/5");
        c.due("county " + text, Check.county(x, text), -1 - p);
        c.due(text + ": no farms come", x.count(0), 2);
        c.due(text + ": the stone stays", x.stone(0, 1), 5);
        c.due(text + ": THE TEXT is emptied", x.count(8), 0);
    }

    private static void countyFaults() {
        fault(";", 0);
        fault("x", 0);
        fault("+", 0);
        fault("A", 0);
        fault("j", 0);
        fault("c", 0);
        fault("5;;6", 2);
        fault("5;", 2);
        fault("100", 2);
        fault("1a", 1);
        fault("5+", 2);
        fault("5+a", 2);
        fault("55+12", 4);
        fault("5/1", 1);
        fault("a", 1);
        fault("aa", 1);
        fault("a1", 1);
        fault("a;", 1);
        fault("ac", 1);
        fault("ab/", 3);
        fault("ab/x", 3);
        fault("ab/12", 4);
        fault("ab+1", 2);
        fault("ab;3;ad", 6);
        fault("ab;3;ac;", 8);
        fault("ab;\0", 3);
        fault("ab;" + (char) 255, 3);
        fault("1;2;3;4;5;6;7;8", 14);
        fault("1;2;3;4;5;6;7;ab;8;x", 17);
    }

    private static void countyLongest() {
        String nine = "1;1;1;1;1;1;1;1;1;";
        String whole = nine + "ab;".repeat(18) + "ab/1";
        c.due("of 76 signs", whole.length(), 76);
        WellsNotEven x = new WellsNotEven();
        c.due("76 signs", Check.county(x, whole), 28);
        c.due("76 signs are read", x.stone(0, 1), 1);
        c.due("77 signs", Check.county(new WellsNotEven(), whole + ";"), -77);
        c.due("80 signs", Check.county(new WellsNotEven(), nine + "ab;".repeat(20) + "ab"), -77);
        c.due("76, its end too early", Check.county(new WellsNotEven(), nine + "ab;".repeat(18) + "ab;a"), -77);
        c.due("76, its end a ;", Check.county(new WellsNotEven(), nine + "ab;" + "ab/1;".repeat(11)), -77);
        c.due("a third letter", Check.county(new WellsNotEven(), nine + "ab;".repeat(18) + "abc"), -75);
        c.due("more, but one is bad", Check.county(new WellsNotEven(), nine + "ab;".repeat(18) + "ab/xyz"), -76);
        c.due("a tenth farm", Check.county(new WellsNotEven(), nine + "1"), -19);
        WellsNotEven y = new WellsNotEven();
        c.due("nothing of it", Check.county(y, nine + "ab;1+1"), -22);
        c.due("no farms", y.count(0), 0);
    }

    private static void countyAndUndo() {
        WellsNotEven x = Check.of("5;5;ab");
        x.week(0, 0);
        x.county();
        c.due("an empty one forgets nothing", x.count(5), 1);
        Check.county(x, "5;x");
        c.due("a bad one forgets nothing", x.count(5), 1);
        Check.county(x, "ab");
        c.due("a good one forgets", x.count(5), 0);
        c.due("no more undo", x.undo(), -1);
        c.due("WEEKS stay", x.count(1), 1);
    }

    private static void farm() {
        WellsNotEven x = Check.of("10+4;11;12;ab;bc/3");
        c.due("depth", x.farm(1, 0), 11);
        c.due("spring", x.farm(0, 1), 4);
        c.due("touching", x.farm(1, 2), 5);
        c.due("touching one", x.farm(2, 2), 2);
        c.due("even with none", x.farm(1, 3), 0);
        x.law(0, 2);
        c.due("even with two", x.farm(1, 3), 5);
        c.due("not even: they do not touch", x.farm(0, 3), 2);
        x.set(0, 0, 9);
        c.due("just apart", x.farm(0, 3), 0);
        x.set(0, 0, 11);
        x.law(1, 4);
        x.set(1, 0, 0);
        x.week(0, 0);
        c.due("paid for two", x.farm(1, 4), 8);
        c.due("paid for one", x.farm(2, 4), 4);
        c.noFarm("three", x, 3, 0);
        c.noFarm("three", x, -1, 0);
        c.noFarm("three", x, Integer.MAX_VALUE, 4);
        c.noFarm("three", x, 0, 5);
        c.noFarm("three", x, 0, -1);
    }

    private static void stoneAndTouch() {
        WellsNotEven x = Check.of("1;2;3;ab/7");
        c.due("stone", x.stone(0, 1), 7);
        c.due("stone, turned", x.stone(1, 0), 7);
        c.due("do not touch", x.stone(0, 2), -2);
        c.due("like ones", x.stone(1, 1), -1);
        c.due("none such", x.stone(0, 3), -1);
        c.due("none such", x.stone(-1, 0), -1);
        c.due("touch", x.touch(2, 0, 9), true);
        c.due("stone 9", x.stone(0, 2), 9);
        c.due("tight", x.touch(0, 2, 0), true);
        c.due("stone 0", x.stone(2, 0), 0);
        c.due("stone 10", x.touch(0, 2, 10), false);
        c.due("stone -2", x.touch(0, 2, -2), false);
        c.due("like ones", x.touch(1, 1, 1), false);
        c.due("none such", x.touch(1, 3, 1), false);
        c.due("none such", x.touch(-1, 1, 1), false);
        c.due("nothing changed", x.stone(0, 2), 0);
        c.due("part", x.touch(0, 2, -1), true);
        c.due("parted", x.stone(0, 2), -2);
        c.due("part again", x.touch(0, 2, -1), true);
        c.due("pairs", x.count(4), 1);
    }

    private static void law() {
        WellsNotEven x = new WellsNotEven();
        c.due("APART", x.law(0, 9), 1);
        c.due("APART was", x.law(0, 1), 9);
        c.due("APART 0", x.law(0, 0), -1);
        c.due("APART 10", x.law(0, 10), -1);
        c.due("FINE 0", x.law(1, 0), 1);
        c.due("FINE was", x.law(1, 9), 0);
        c.due("FINE -1", x.law(1, -1), -1);
        c.due("FINE 10", x.law(1, 10), -1);
        c.due("BUCKET", x.law(2, 9), 1);
        c.due("BUCKET 0", x.law(2, 0), -1);
        c.due("BUCKET 10", x.law(2, 10), -1);
        c.due("BUCKET stays", x.law(2, 9), 9);
        c.due("another", x.law(3, 1), -1);
        c.due("another", x.law(-1, 1), -1);
    }

    private static void set() {
        WellsNotEven x = Check.of("10+4;20");
        c.due("depth", x.set(0, 1, 99), 20);
        c.due("depth was", x.set(0, 1, 0), 99);
        c.due("spring", x.set(1, 0, 9), 4);
        c.due("spring was", x.set(1, 0, 0), 9);
        c.due("depth 100", x.set(0, 0, 100), -1);
        c.due("depth -1", x.set(0, 0, -1), -1);
        c.due("spring 10", x.set(1, 0, 10), -1);
        c.due("spring -1", x.set(1, 0, -1), -1);
        c.due("another", x.set(2, 0, 1), -1);
        c.due("another", x.set(-1, 0, 1), -1);
        c.due("none such", x.set(0, 2, 1), -1);
        c.due("none such", x.set(0, -1, 1), -1);
        c.depths("set", x, 10, 0);
        c.due("spring stays", x.farm(0, 1), 0);
        c.due("nothing to undo", x.count(5), 0);
    }

    private static void sheet() {
        WellsNotEven x = Check.of("1;2;3");
        c.due("bytes", x.sheet(0, 3, 100, 20), 198);
        c.depths("bytes", x, 99, 99, 0);
        c.due("bytes, lowest bits", x.sheet(0, 3, 257, 256), 3);
        c.depths("bytes, lowest bits", x, 1, 1, 1);
        c.due("shorts", x.sheet(1, 2, 65541, 65536 + 2), 12);
        c.depths("shorts", x, 5, 7, 0);
        c.due("shorts below 0", x.sheet(1, 3, 32767, 1), 99);
        c.depths("shorts below 0", x, 99, 0, 0);
        c.due("ints", x.sheet(2, 9, Integer.MAX_VALUE, 1), 99);
        c.depths("ints", x, 99, 0, 0);
        c.due("ints falling", x.sheet(2, 3, 50, -30), 70);
        c.depths("ints falling", x, 50, 20, 0);
        c.due("n below 0", x.sheet(0, -1, 7, 7), -2);
        c.due("n below 0", x.sheet(2, Integer.MIN_VALUE, 7, 7), -2);
        c.due("another kind", x.sheet(4, -1, 7, 7), -1);
        c.due("another kind", x.sheet(-1, 1, 7, 7), -1);
        c.due("n above 9", x.sheet(0, 10, 7, 7), -1);
        c.due("n above 9, missing", x.sheet(3, 10, 7, 7), -1);
        c.depths("nothing changes", x, 50, 20, 0);
        c.due("missing", x.sheet(3, 3, 7, 7), -3);
        c.depths("missing", x, 0, 0, 0);
        x.sheet(2, 3, 7, 7);
        c.due("missing, n below 0", x.sheet(3, -1, 7, 7), -3);
        c.depths("missing, n below 0", x, 0, 0, 0);
        x.sheet(2, 3, 7, 7);
        c.due("no entries", x.sheet(2, 0, 7, 7), 0);
        c.depths("no entries", x, 0, 0, 0);
        c.due("nothing to undo", x.count(5), 0);
    }
}
