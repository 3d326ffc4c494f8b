/** Promises 39 to 44: what Sundays showed. */
public final class SundaysTest {
    private static final Check c = new Check("SundaysTest");

    public static void main(String[] args) {
        seenAndForget();
        springs();
        stones();
        nights();
        sunday();
        c.finish();
    }

    private static void seenAndForget() {
        WellsNotEven x = new WellsNotEven();
        c.due("none to forget", x.forget(), -1);
        c.due("n 0", x.seen(0, 0), -1);
        c.due("n 101", x.seen(101, 0), -1);
        c.due("pairs -1", x.seen(1, -1), -1);
        c.due("pairs 37", x.seen(1, 37), -1);
        c.due("none was told", x.count(6), 0);
        for (int i = 1; i <= 10; i++) {
            c.due("seen " + i, x.seen(i == 1 ? 100 : i, i == 1 ? 36 : 0), i);
        }
        c.due("an eleventh", x.seen(1, 0), -1);
        c.due("ten", x.count(6), 10);
        for (int i = 9; i >= 0; i--) {
            c.due("left", x.forget(), i);
        }
        c.due("none left", x.forget(), -1);
    }

    private static void springs() {
        WellsNotEven x = Check.of("0+1;10;ab");
        c.due("nothing seen", x.springs(0), 1023);
        x.seen(5, 1);
        c.due("a has 2", x.springs(0), 4);
        c.due("b has none such", x.springs(1), 0);
        x.seen(10, 0);
        c.due("a has 2 all the same", x.springs(0), 4);
        x.seen(5, 0);
        c.due("both can't be", x.springs(0), 0);
        c.due("the latest goes", x.forget(), 2);
        c.due("a has 2 again", x.springs(0), 4);
        x.weeks(4);
        c.due("from when it is asked for: 4 + 5 s", x.springs(0), 0);
        x.set(0, 0, 5);
        c.due("5 + 5 s", x.springs(0), 2);
        c.due("nothing changes", x.farm(0, 1), 1);
        c.due("none such", x.springs(2), -1);
        c.due("none such", x.springs(-1), -1);
    }

    private static void stones() {
        WellsNotEven x = Check.of("40;0;9;ab/3");
        c.due("nothing seen", x.stones(0, 1), 1023);
        x.seen(1, 1);
        c.due("1 alone", x.stones(0, 1), 2);
        c.due("turned", x.stones(1, 0), 2);
        x.forget();
        x.seen(1, 0);
        c.due("all but 1, tight too", x.stones(0, 1), 1021);
        c.due("nothing changes", x.stone(0, 1), 3);
        c.due("do not touch", x.stones(0, 2), -2);
        c.due("like ones", x.stones(1, 1), -1);
        c.due("none such", x.stones(0, 3), -1);
        c.due("none such", x.stones(-1, 0), -1);
    }

    private static void nights() {
        WellsNotEven x = Check.of("10;8;ab");
        x.seen(1, 1);
        c.due("a gave b", x.nights(), 1);
        c.row("a gave b", x, 1, 0);
        x.forget();
        x.seen(1, 0);
        c.due("b gave a, or none", x.nights(), 1);
        c.row("b gave a, or none", x, 10, 1);
        x.law(2, 9);
        c.due("b has not so much", x.nights(), 1);
        c.row("b has not so much", x, 1, 1);
        x.set(0, 0, 8);
        c.due("nobody can", x.nights(), 0);
        c.row("nobody can", x, 0);
        x.forget();
        c.due("nothing seen", x.nights(), 0);
        c.row("nothing seen", x, 1);
        c.depths("nothing changes", x, 8, 8);
    }

    private static void sunday() {
        WellsNotEven x = Check.of("0;10;ab");
        c.due("the tenth", x.sunday(), 10);
        c.row("a or another", x, 2);
        WellsNotEven y = Check.of("0+9;45;ab");
        c.due("a has 9", y.sunday(), 5);
        c.row("b or nobody", y, 1);
        WellsNotEven z = Check.of("5;50");
        c.due("nothing tells", z.sunday(), 1);
        c.row("nothing tells", z, 3);
        c.due("one farm of 9", Check.of("0+9").sunday(), 1);
        WellsNotEven far = Check.of("0;20;ab");
        c.due("the twentieth", far.sunday(), 20);
        far.set(0, 1, 21);
        c.due("not within 20", far.sunday(), 1);
        c.row("not within 20", far, 3);
        far.seen(1, 5);
        far.sunday();
        c.row("what was seen does not matter", far, 3);
        WellsNotEven two = Check.of("20;25;25;ab;ac");
        c.due("a meets both", two.sunday(), 5);
        c.row("a meets both", two, 3);
        WellsNotEven none = new WellsNotEven();
        none.weeks(0);
        c.due("no farms", none.sunday(), -2);
        c.row("the row stays", none, 0);
    }
}
