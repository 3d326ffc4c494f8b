/** The boundary cases that the document's Terms name. */
final class TermsEdges {
    private static final int TERMS = Edges.TERMS;

    private TermsEdges() {
    }

    static void all(Edges e) {
        farms(e);
        depthsAndSprings(e);
        touching(e);
        countyText(e);
        countyLines(e);
        law(e);
        even(e);
        bucket(e);
        bucketTold(e);
        seepOnce(e);
        seepCut(e);
        seepTooMuch(e);
        springAndRain(e);
        sunday(e);
        row(e);
        searches(e);
        refused(e);
    }

    private static void farms(Edges e) {
        e.says(TERMS, "FARMS 0 .. (at most 9; written a .. i)");
        WellsNotEven x = Check.of("0;1;2;3;4;5;6;7");
        e.due("eight", x.count(0), 8);
        e.due("i is none of eight", Check.county(x, "ai"), -2);
        e.due("a ninth", Check.county(x, "8"), 1);
        e.due("i is the ninth", Check.county(x, "ai/5"), 1);
        e.due("its stone", x.stone(0, 8), 5);
        e.due("a tenth", Check.county(x, "9"), -1);
        e.due("a tenth by heirs", x.divide(0, 0), -1);
        e.due("j is none", Check.county(x, "aj"), -2);
        e.due("j is none", Check.county(x, "ja"), -1);
        e.due("the sign ahead of a is none", Check.county(x, "`b"), -1);
        e.due("nine", x.count(0), 9);
    }

    private static void depthsAndSprings(Edges e) {
        e.says(TERMS, "DEPTH 0 .. 99 (whole inches of water), SPRING 0 .. 9.");
        WellsNotEven x = Check.of("0;99;0+9;99+0");
        e.depths("both ends", x, 0, 99, 0, 99);
        e.due("SPRING 9", x.farm(2, 1), 9);
        e.due("SPRING 0", x.farm(3, 1), 0);
        e.due("DEPTH 0 by set()", x.set(0, 1, 0), 99);
        e.due("DEPTH 99 by set()", x.set(0, 0, 99), 0);
        e.due("SPRING 0 by set()", x.set(1, 2, 0), 9);
        e.due("SPRING 9 by set()", x.set(1, 3, 9), 0);
        e.depths("the other ends", x, 99, 0, 0, 99);
    }

    private static void touching(Edges e) {
        e.says(TERMS, "Two unlike FARMS TOUCH or do not; between such that do is a STONE 1 .. 9, or tight (0).");
        WellsNotEven x = Check.of("1;2");
        e.due("at first they do not", x.stone(0, 1), -2);
        for (int s = 0; s <= 9; s++) {
            e.due("a stone " + s, x.touch(1, 0, s), true);
            e.due("told back, one way", x.stone(0, 1), s);
            e.due("told back, the other way", x.stone(1, 0), s);
        }
        e.due("not with itself", x.touch(1, 1, 1), false);
        e.due("nor does it touch itself", x.farm(1, 2), 1);
        e.due("nor by a text", Check.county(x, "bb"), -2);
    }

    private static void countyText(Edges e) {
        e.says(TERMS, "THE COUNTY is a text of at most 76 signs:");
        String lines = "10;20;" + "ab;".repeat(22);
        e.due("signs", (lines + "ab/7").length(), 76);
        WellsNotEven x = new WellsNotEven();
        e.due("75", Check.county(x, "10;20;" + "ab;".repeat(21) + "ab/3;0"), 25);
        e.due("76", Check.county(new WellsNotEven(), lines + "ab/7"), 25);
        e.due("77", Check.county(new WellsNotEven(), "1" + "0;20;" + "ab;".repeat(23) + "ab"), -77);
        e.due("80", Check.county(new WellsNotEven(), lines + "ab;ab/12"), -77);
    }

    private static void countyLines(Edges e) {
        e.says(TERMS, "LINES with ; between, what they tell comes behind what there is:");
        WellsNotEven x = Check.of("5");
        e.due("one", x.count(0), 1);
        e.due("none ahead of the first", Check.county(x, ";6"), -1);
        e.due("none behind the last", Check.county(x, "6;"), -3);
        e.due("no two", Check.county(x, "6;;7"), -3);
        e.due("two lines", Check.county(x, "6;ab"), 2);
        e.depths("behind what there is", x, 5, 6);
        e.says(TERMS, "a FARM: DEPTH (1 or 2 digits), and perhaps + and a digit (SPRING, else 0);");
        WellsNotEven y = Check.of("7");
        e.due("no digit", Check.county(y, "+7"), -1);
        e.due("1 and 2, with and without", Check.county(y, "0;00;09;90;3+0;33+9"), 6);
        e.depths("1 and 2, with and without", y, 7, 0, 0, 9, 90, 3, 33);
        e.due("else 0", y.farm(4, 1), 0);
        e.due("+0", y.farm(5, 1), 0);
        e.due("+9", y.farm(6, 1), 9);
        e.due("3 digits", Check.county(y, "099"), -3);
        e.due("+ and no digit", Check.county(y, "1+;2"), -3);
        e.due("+ and two digits", Check.county(y, "1+10"), -4);
        e.due("+ twice", Check.county(y, "1+1+1"), -4);
        e.due("a blank", Check.county(y, " 1"), -1);
        e.says(TERMS, "or two that TOUCH: a letter, another letter (FARMS that are there),");
        WellsNotEven z = Check.of("1;2;3");
        e.due("one letter", Check.county(z, "a;ab"), -2);
        e.due("three letters", Check.county(z, "abc"), -3);
        e.due("one that is not there", Check.county(z, "ad"), -2);
        e.due("one that is there by the line ahead", Check.county(z, "4;ad"), 2);
        e.due("one that comes later", Check.county(z, "ae;5"), -2);
        e.says(TERMS, "and perhaps / and a digit (STONE, else 0; told anew: what it is then).");
        e.due("/ and no digit", Check.county(z, "ab/"), -4);
        e.due("/ and two digits", Check.county(z, "ab/10"), -5);
        e.due("/9 and /0", Check.county(z, "ab/9;bc/0"), 2);
        e.due("/9", z.stone(0, 1), 9);
        e.due("/0", z.stone(1, 2), 0);
        e.due("told anew without", Check.county(z, "ba;cb/1"), 2);
        e.due("else 0", z.stone(0, 1), 0);
        e.due("what it is then", z.stone(1, 2), 1);
    }

    private static void law(Edges e) {
        e.says(TERMS, "THE LAW: what 0: APART 1 .. 9 (at first 1), 1: FINE 0 .. 9 (1), 2: BUCKET 1 .. 9 (1: how many inches"
                + " one holds).");
        WellsNotEven x = Check.of("30;10;ab");
        e.due("APART at first", x.law(0, 9), 1);
        e.due("APART 9", x.law(0, 1), 9);
        e.due("FINE at first", x.law(1, 0), 1);
        e.due("FINE 0", x.law(1, 9), 0);
        e.due("FINE 9", x.law(1, 9), 9);
        e.due("a bucket at first holds one", x.carry(0, 1), 29);
        e.due("BUCKET at first", x.law(2, 9), 1);
        e.due("a bucket of 9", x.carry(0, 1), 20);
        e.depths("a bucket of 9", x, 20, 20);
        e.due("BUCKET 9", x.law(2, 1), 9);
        e.due("BUCKET 1", x.law(2, 1), 1);
    }

    private static void even(Edges e) {
        e.says(TERMS, "Two that TOUCH are EVEN, if their DEPTHS differ by fewer inches than APART.");
        for (int apart = 1; apart <= 9; apart++) {
            WellsNotEven x = Check.of("50;50;50;ab;ca");
            x.law(0, apart);
            x.set(0, 1, 50 + apart);
            x.set(0, 2, 50 - apart);
            e.due("just apart by " + apart, x.farm(0, 3), 0);
            x.set(0, 1, 50 + apart - 1);
            e.due("an inch nearer, the deeper one, " + apart, x.farm(0, 3), 2);
            x.set(0, 2, 50 - apart + 1);
            e.due("an inch nearer, the other one, " + apart, x.farm(0, 3), 6);
            e.due("those that do not touch are not", x.farm(1, 3), 1);
        }
        e.says(TERMS, "THE COUNTY is LAWFUL, if no two are.");
        e.due("no farms", new WellsNotEven().fewest(), 0);
        e.due("one farm", Check.of("5").fewest(), 0);
        e.due("two alike that do not touch", Check.of("5;5").fewest(), 0);
        e.due("two that are", Check.of("5;5;ab").fewest(), 1);
    }

    private static void bucket(Edges e) {
        e.says(TERMS, "A BUCKET is carried from a FARM to one that TOUCHES it: that has BUCKET inches or more, and the other one"
                + " 99 less BUCKET or fewer; the one has so many less then, the other one more.");
        for (int holds = 1; holds <= 9; holds++) {
            WellsNotEven x = Check.of("0;0;0;ab");
            x.law(2, holds);
            x.set(0, 0, holds - 1);
            x.set(0, 1, 99 - holds);
            e.due("one inch too few for " + holds, x.carry(0, 1), -3);
            x.set(0, 0, holds);
            x.set(0, 1, 100 - holds);
            e.due("one inch too many for " + holds, x.carry(0, 1), -3);
            e.due("to one that does not touch", x.carry(0, 2), -2);
            x.set(0, 1, 99 - holds);
            e.due("just so many", x.carry(0, 1), 0);
            e.depths("just so many", x, 0, 99, 0);
        }
    }

    private static void bucketTold(Edges e) {
        e.says(TERMS, "It is told as 10 times the FARM from, and the FARM to.");
        WellsNotEven x = Check.of("10;20;30;40;50;60;70;0;9;hi");
        x.law(0, 9);
        x.law(2, 9);
        x.set(0, 8, 8);
        e.due("none can", x.fewest(), -2);
        x.set(0, 8, 9);
        x.set(0, 7, 9);
        e.due("h to i", x.fewest(), 1);
        e.row("h to i", x, 78);
        x.set(0, 7, 8);
        e.due("i to h", x.fewest(), 1);
        e.row("i to h", x, 87);
        x.touch(7, 8, -1);
        x.touch(0, 8, 0);
        x.sheet(2, 9, 9, 0);
        e.due("a to i", x.fewest(), 1);
        e.row("a to i", x, 8);
    }

    private static void seepOnce(Edges e) {
        e.says(TERMS, "A WEEK goes by, with RAIN -9 .. 9 (drought below 0) on FARMS told:");
        WellsNotEven rain = Check.of("50;50;50");
        rain.week(9, 1);
        rain.week(-9, 2);
        e.depths("rain on one, drought on another one", rain, 59, 41, 50);
        e.says(TERMS, "first SEEP: of DEPTHS as they are,");
        WellsNotEven x = Check.of("40;20;0;ab/1;bc/1");
        x.week(0, 0);
        e.depths("what b gets does not seep on in the same week", x, 30, 20, 10);
        WellsNotEven first = Check.of("10+9;0;ab/1");
        first.week(9, 1);
        e.depths("ahead of spring and rain", first, 23, 5);
        e.says(TERMS, "through each STONE that is not tight,");
        WellsNotEven y = Check.of("90;0;0;0;ab/0;ac/1;ad/9");
        y.week(0, 0);
        e.depths("through 1 and 9, not through 0", y, 40, 0, 45, 5);
    }

    private static void seepCut(Edges e) {
        e.says(TERMS, "from the deeper water to the other one, as many inches as their difference divided by twice the STONE"
                + " (cut);");
        for (int stone = 1; stone <= 9; stone++) {
            for (int inches = 0; inches <= 2; inches++) {
                int less = 40 - 2 * stone * inches;
                int more = 40 + 2 * stone * (inches + 1) - 1;
                WellsNotEven x = Check.of(less + ";40;" + more + ";ab/" + stone + ";bc/" + stone);
                x.week(0, 0);
                e.depths("stone " + stone + ", just " + inches + " to a, not yet one more from c", x,
                        less + inches, 40, more - inches);
            }
        }
    }

    private static void seepTooMuch(Edges e) {
        e.says(TERMS, "all at once (a FARM that would give more than it has by all its STONES gives nothing through any);");
        WellsNotEven x = Check.of("18;0;0;0;ab/1;ac/1");
        x.week(0, 0);
        e.depths("all it has it gives", x, 0, 9, 9, 0);
        x.sheet(2, 4, 18, 0);
        x.sheet(2, 1, 18, 0);
        x.touch(0, 3, 9);
        x.week(0, 0);
        e.depths("one inch more than it has: nothing through any", x, 18, 0, 0, 0);
        WellsNotEven y = Check.of("36;99;0;0;0;ab/9;ac/1;ad/1;ae/9");
        y.week(0, 0);
        e.depths("it gets, all the same, and what it gets does not matter", y, 39, 96, 0, 0, 0);
        WellsNotEven two = Check.of("20;0;20;0;0;ab/1;cd/1;ce/1;ae/2;ad/1");
        two.week(0, 0);
        e.depths("one gives too much, the other one gives", two, 20, 0, 0, 10, 10);
    }

    private static void springAndRain(Edges e) {
        e.says(TERMS, "then SPRING and RAIN come to each (0 at least, 99 at most; what is above is lost).");
        WellsNotEven x = Check.of("9;8;0+9;90;91;90+9;99");
        x.week(-9, 7);
        e.depths("0 at least", x, 0, 0, 0, 90, 91, 99, 99);
        e.row("none lost", x, 0, 0);
        x.set(1, 2, 0);
        x.set(1, 5, 0);
        x.week(9, 24);
        e.depths("99 at most", x, 0, 0, 0, 99, 99, 99, 99);
        e.row("one lost", x, 0, 1);
        x.set(1, 6, 9);
        x.week(9, 96);
        e.row("9 of f, 18 of g", x, 0, 27);
        x.week(-9, 64);
        e.depths("they come together: none lost, none missing", x, 0, 0, 0, 99, 99, 99, 99);
        e.row("they come together", x, 0, 0);
        WellsNotEven seeped = Check.of("95;99;99;99;ab/1;ac/1;ad/1");
        seeped.week(-1, 1);
        e.depths("101 behind the seep, 100 behind the drought", seeped, 99, 97, 97, 97);
        e.row("one lost", seeped, 0, 1);
        seeped.undo();
        seeped.week(-2, 1);
        e.row("none lost", seeped, 0, 0);
        seeped.undo();
        seeped.week(0, 0);
        e.row("two lost", seeped, 0, 2);
    }

    private static void sunday(Edges e) {
        e.says(TERMS, "Then it is SUNDAY: each of two that are EVEN pays FINE.");
        WellsNotEven x = Check.of("40;38;7;ab/1;bc");
        x.law(1, 9);
        e.due("39 and 39: ab", x.week(0, 0), 1);
        e.row("both pay", x, 18, 0);
        e.due("a", x.farm(0, 4), 9);
        e.due("b", x.farm(1, 4), 9);
        e.due("c", x.farm(2, 4), 0);
        x.law(1, 0);
        x.week(0, 0);
        e.row("a fine of 0", x, 0, 0);
        e.due("a, no more", x.farm(0, 4), 9);
        x.law(1, 1);
        x.week(1, 1);
        e.row("not even behind the rain: nobody", x, 0, 0);
        e.says(TERMS, "WEEKS: how many went by (at first 0).");
        e.due("at first", new WellsNotEven().count(1), 0);
        e.due("three", x.count(1), 3);
        x.weeks(50);
        e.due("53", x.count(1), 53);
    }

    private static void row(Edges e) {
        e.says(TERMS, "ROW: numbers told last by a call that says so.");
        WellsNotEven x = Check.of("5;5;ab");
        e.due("none at first", x.count(7), 0);
        x.even();
        e.row("three", x, 0, 1, 3);
        x.lasts();
        x.clash(0, 1);
        x.later(0, 1);
        x.springs(0);
        x.stones(0, 1);
        x.drought(1);
        x.sheet(2, 2, 5, 0);
        x.carry(0, 1);
        x.undo();
        x.keep(0);
        x.again(0);
        e.row("calls that do not say so", x, 0, 1, 3);
        x.weeks(0);
        e.row("a shorter one", x, 0);
        e.says(TERMS, "Rows of numbers are compared from the first on.");
        WellsNotEven y = Check.of("0;0;0;0;0;0;ab;be;ef;ac;cd;df");
        e.due("a b e f and a c d f", y.road(0, 5), 3);
        e.row("the first number tells, not the last", y, 1, 4);
    }

    private static void searches(Edges e) {
        e.says(TERMS, "Searches by BUCKETS: DEPTHS of all that can come are found one by one, each once: as they are first;");
        e.due("as they are", Check.of("5;5;ab").reach(0), 1);
        e.due("b to a and back is found once: 1 9 .. 9 1", Check.of("5;5;ab").reach(4), 9);
        e.says(TERMS, "then from each, as they were found, by each BUCKET that can be carried, rising as it is told.");
        WellsNotEven x = Check.of("5;5;9;9;ab;cd");
        e.due("two buckets", x.fewest(), 2);
        e.row("a to b first, c to d behind it", x, 1, 23);
        WellsNotEven again = Check.of("5;5;ab");
        e.due("from 5 and 5", again.reach(2), 5);
        again.set(0, 0, 6);
        e.due("from 6 and 5, as if none had been found before", again.reach(2), 5);
        e.row("from 6 and 5", again, 5, 0);
        e.says(TERMS, "More than 3000 of them: -3.");
        e.due("50 times 60", Check.of("49;0;59;0;0;0;ab;cd;ef").fewest(), -2);
        // 59 times 51 are 3009; one of 3001 (a prime number) would want a well of more inches than there are.
        WellsNotEven many = Check.of("50;0;58;0;0;0;ab;cd;ef");
        e.due("51 times 59", many.fewest(), -3);
        e.due("of the next search there are no more", many.reach(0), 1);
    }

    private static void refused(Edges e) {
        e.says(TERMS, "Refused calls answer NONE, or false, and change nothing but THE TEXT, which a call that reads it"
                + " empties.");
        WellsNotEven x = Check.of("5;5;ab/3");
        Check.night(x, "b>b");
        Check.tell(x, "7;ab/9;x");
        String before = Edges.stateOf(x);
        e.due("a text", x.count(8), 8);
        e.due("NONE", x.carry(0, 0), -1);
        e.due("false", x.touch(0, 0, 1), false);
        e.due("calls that do not read it leave it", before.equals(Edges.stateOf(x)), true);
        e.due("a bad one", x.county(), -8);
        e.due("is read and gone", x.count(8), 0);
        e.due("nothing of it came", x.count(0), 2);
        e.due("nor its stone", x.stone(0, 1), 3);
        e.row("the row stays", x, 1);
        Check.tell(x, "a>b;x");
        e.due("a bad night", x.night(), -5);
        e.due("is read and gone", x.count(8), 0);
        e.depths("nothing was carried", x, 5, 5);
        e.row("the row stays", x, 1);
    }
}
