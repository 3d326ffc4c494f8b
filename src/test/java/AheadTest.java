/** Promises 27 to 38: weeks to come. */
public final class AheadTest {
    private static final Check c = new Check("AheadTest");

    public static void main(String[] args) {
        lasts();
        later();
        still();
        keeps();
        mercy();
        drought();
        clash();
        payer();
        pray();
        seal();
        road();
        boon();
        c.finish();
    }

    private static void lasts() {
        WellsNotEven x = Check.of("0+1;10;ab");
        c.due("they meet", x.lasts(), 10);
        x.law(0, 3);
        c.due("they come near", x.lasts(), 8);
        c.depths("nothing changes", x, 0, 10);
        c.due("nor WEEKS", x.count(1), 0);
        c.due("even now alone", Check.of("10+1;10;ab").lasts(), -2);
        c.due("even now and then", Check.of("10;10;ab").lasts(), 1);
        c.due("at last", Check.of("0+1;99;ab").lasts(), 99);
        c.due("never", Check.of("0;10;ab").lasts(), -2);
        c.due("by seep", Check.of("40;0;ab/1").lasts(), 1);
        WellsNotEven slow = Check.of("0+1;99;0;ab;ac/9");
        c.due("a loses water to c, and does not rise so far in 100", slow.lasts(), -2);
        // b gets water till it has 81 inches; a is full then, 180 in all: 100 more than at first.
        WellsNotEven hundred = Check.of("60+1;20;99;ab/9;ac");
        c.due("100 weeks", hundred.lasts(), 100);
        c.due("100 weeks", hundred.clash(0, 2), 100);
        hundred.set(0, 1, 19);
        c.due("101 weeks", hundred.lasts(), -2);
        c.due("101 weeks", hundred.clash(0, 2), -2);
    }

    private static void later() {
        WellsNotEven x = Check.of("0+3;40;0;bc/1");
        c.due("now", x.later(0, 0), 0);
        c.due("11 weeks", x.later(0, 11), 33);
        c.due("33 weeks", x.later(0, 33), 99);
        c.due("100 weeks", x.later(0, 100), 99);
        c.due("seep", x.later(2, 1), 20);
        c.due("101", x.later(0, 101), -1);
        c.due("-1", x.later(0, -1), -1);
        c.due("none such", x.later(3, 1), -1);
        c.due("none such", x.later(-1, 1), -1);
        c.due("nothing changes", x.farm(0, 0), 0);
    }

    private static void still() {
        WellsNotEven x = Check.of("90+3;5;ab");
        c.due("three weeks", x.still(), 3);
        c.row("three weeks", x, 0);
        WellsNotEven y = Check.of("40;0;ab/1");
        c.due("one week", y.still(), 1);
        c.row("even then", y, 1);
        y.set(0, 0, 1);
        c.due("now", y.still(), 0);
        c.row("now", y, 0);
        c.due("99 weeks", Check.of("0+1").still(), 99);
        c.due("100 weeks: full after 99, then b gets one", Check.of("0+1;81;ab/9").still(), 100);
        c.due("101 weeks", Check.of("0+1;80;ab/9").still(), -2);
        WellsNotEven slow = Check.of("0+1;0;ab/9");
        slow.even();
        c.due("198 inches, one a week", slow.still(), -2);
        c.row("the row stays", slow, 0, 1, 3);
    }

    private static void keeps() {
        WellsNotEven x = Check.of("5+1;10;ab");
        x.law(0, 3);
        c.due("without buckets", x.keeps(12, 0), 2);
        c.row("without buckets", x, 0);
        c.due("by one a week", x.keeps(12, 1), 12);
        c.row("every other week", x, 5);
        c.due("by two a week: one does", x.keeps(12, 2), 12);
        c.row("by two a week: one does", x, 5);
        c.due("three weeks", x.keeps(3, 1), 3);
        c.row("three weeks", x, 1);
        c.due("no week", x.keeps(0, 2), 0);
        c.row("no week", x, 0);
        c.due("13", x.keeps(13, 0), -1);
        c.due("-1", x.keeps(-1, 0), -1);
        c.due("3 buckets", x.keeps(1, 3), -1);
        c.due("-1 buckets", x.keeps(1, -1), -1);
        c.depths("nothing changes", x, 5, 10);
        x.sheet(2, 2, 10, 0);
        c.due("a week more of springs is 11 and 10: two buckets", x.keeps(1, 2), 1);
        c.row("a gives none, b gives one: 12 and 9", x, 1);
        x.law(0, 9);
        c.due("not even the first", x.keeps(5, 2), 0);
        c.row("not even the first", x, 0);
        WellsNotEven y = BucketsTest.crowd(50);
        c.due("nine, 1405 depths", y.keeps(12, 2), 0);
    }

    private static void mercy() {
        WellsNotEven x = Check.of("0+1;10;5;ab;bc;ac");
        c.due("none", x.mercy(0), 0);
        c.row("none", x, 0);
        c.due("four weeks", x.mercy(4), 0);
        c.row("four weeks", x, 0);
        c.due("five weeks", x.mercy(5), 1);
        c.row("the least bits", x, 1);
        c.due("ten weeks", x.mercy(10), 2);
        c.row("a is in both", x, 1);
        x.set(0, 1, 5);
        c.due("all three", x.mercy(100), 3);
        c.row("all three", x, 3);
        c.due("b and c each week", x.mercy(4), 1);
        c.row("b and c each week", x, 2);
        c.due("101", x.mercy(101), -1);
        c.due("-1", x.mercy(-1), -1);
        WellsNotEven star = Check.of("9;9;9;9;ad;bd;cd");
        c.due("a star", star.mercy(1), 3);
        c.row("its middle", star, 8);
        WellsNotEven crowd = BucketsTest.crowd(5);
        c.due("nine", crowd.mercy(1), 36);
        c.row("all but the last", crowd, 255);
    }

    private static void drought() {
        WellsNotEven x = Check.of("10;12;ab");
        c.due("all dry", x.drought(-9), 2);
        c.due("all full", x.drought(9), 10);
        c.due("never", x.drought(0), -2);
        c.due("10", x.drought(10), -1);
        c.due("-10", x.drought(-10), -1);
        c.due("alike now and then", Check.of("4;4").drought(0), 1);
        c.due("one farm", Check.of("4").drought(-1), -2);
        c.due("with springs", Check.of("90+2;90;1").drought(1), 98);
        c.due("without rain", Check.of("90+2;90;1").drought(0), -2);
        c.due("with springs", Check.of("90+2;90;81").drought(1), 18);
        c.depths("nothing changes", x, 10, 12);
    }

    private static void clash() {
        WellsNotEven x = Check.of("0+1;10;5;4;ab;bc;ac");
        c.due("ab", x.clash(0, 1), 10);
        c.due("ba", x.clash(1, 0), 10);
        c.due("ac", x.clash(0, 2), 5);
        c.due("never", x.clash(1, 2), -2);
        c.due("do not touch", x.clash(0, 3), -2);
        c.due("like ones", x.clash(1, 1), -1);
        c.due("none such", x.clash(0, 4), -1);
        c.due("none such", x.clash(-1, 0), -1);
        x.set(0, 2, 10);
        c.due("now, and then", x.clash(1, 2), 1);
    }

    private static void payer() {
        WellsNotEven x = Check.of("0+1;10;5;ab;bc;ac");
        x.law(1, 2);
        c.due("ten weeks", x.payer(10), 0);
        c.row("ten weeks", x, 4, 8);
        c.due("five weeks, the first of equal ones", x.payer(5), 0);
        c.row("five weeks", x, 2, 4);
        c.due("nobody pays", x.payer(4), 0);
        c.row("nobody pays", x, 0, 0);
        x.set(0, 1, 5);
        c.due("b and c", x.payer(4), 1);
        c.row("b and c", x, 8, 16);
        x.weeks(4);
        c.due("what was paid does not matter", x.payer(0), 0);
        c.row("what was paid does not matter", x, 0, 0);
        c.due("101", x.payer(101), -1);
        c.due("-1", x.payer(-1), -1);
        WellsNotEven none = new WellsNotEven();
        c.due("no farms", none.payer(100), -2);
        c.due("no farms, another n", none.payer(-1), -1);
    }

    private static void pray() {
        WellsNotEven x = Check.of("10;10;ab");
        c.due("the least size", x.pray(1), -1);
        x.set(0, 1, 9);
        c.due("none", x.pray(1), 0);
        x.set(0, 1, 10);
        x.law(0, 3);
        c.due("below 0 first", x.pray(1), -3);
        c.row("below 0 first", x, 0);
        c.due("on both", x.pray(3), 0);
        c.row("on both", x, 1);
        x.sheet(2, 2, 1, 0);
        c.due("there is no room below", x.pray(1), 3);
        c.row("there is no room below", x, 0);
        x.law(0, 9);
        x.sheet(2, 2, 5, 0);
        c.due("nine", x.pray(2), 9);
        x.sheet(2, 2, 95, 0);
        c.due("nine below", x.pray(2), -9);
        c.due("bits of none such", x.pray(4), -10);
        c.due("bits of none such", x.pray(-1), -10);
        c.row("the row stays", x, 0);
        c.depths("nothing changes", x, 95, 95);
    }

    private static void seal() {
        WellsNotEven x = Check.of("40;0;20;ab/1;bc/1");
        c.due("equal ones", x.seal(), 0);
        c.row("the first", x, 1, 1);
        WellsNotEven y = Check.of("90;0;40;ab/9;bc/1");
        c.due("bc", y.seal(), 1);
        c.row("never then", y, 2, -2);
        c.due("nothing changes", y.stone(1, 2), 1);
        WellsNotEven z = Check.of("40;0;9+1;ab/1;ac");
        c.due("ab alone has one", z.seal(), 0);
        c.row("a and c meet", z, 1, 31);
        z.touch(0, 1, 0);
        c.due("all tight", z.seal(), -2);
        c.row("the row stays", z, 1, 31);
    }

    private static void road() {
        WellsNotEven x = Check.of("0;0;0;0;0;0;ac;cd;ab;bd;de");
        c.due("two steps", x.road(0, 3), 2);
        c.row("the least row", x, 1);
        c.due("three steps", x.road(4, 0), 3);
        c.row("three steps", x, 3, 1);
        c.due("one step", x.road(3, 4), 1);
        c.row("one step", x);
        x.weeks(0);
        c.due("the same", x.road(5, 5), 0);
        c.row("the same", x);
        x.weeks(0);
        c.due("none leads there", x.road(0, 5), -2);
        c.row("the row stays", x, 0);
        c.due("none such", x.road(0, 6), -1);
        c.due("none such", x.road(-1, 0), -1);
        WellsNotEven path = Check.of("0;0;0;0;0;0;0;0;0;ai;ih;hg;gf;fe;ed;dc;cb");
        c.due("the longest", path.road(0, 1), 8);
        c.row("the longest", path, 8, 7, 6, 5, 4, 3, 2);
    }

    private static void boon() {
        WellsNotEven x = Check.of("0+1;10;ab");
        c.due("b flees", x.boon(), 1);
        c.row("till both are full", x, 99, 10);
        c.due("nothing changes", x.farm(1, 1), 0);
        WellsNotEven y = Check.of("0+9;45;ab");
        c.due("9 at most", y.boon(), 1);
        c.row("9 at most", y, 54, 5);
        WellsNotEven z = Check.of("0;10;50;ab");
        c.due("never, by any: the first of them", z.boon(), 1);
        c.row("never", z, -2, -2);
        WellsNotEven nine = Check.of("0+9;45+9;ab");
        c.due("both have 9", nine.boon(), 0);
        c.row("both have 9", nine, 11, 11);
        WellsNotEven none = new WellsNotEven();
        none.weeks(0);
        c.due("no farms", none.boon(), -2);
        c.row("the row stays", none, 0);
    }
}
