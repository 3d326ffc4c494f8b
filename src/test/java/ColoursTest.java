/** Promises 23 to 26: colours of depth. */
public final class ColoursTest {
    private static final Check c = new Check("ColoursTest");

    public static void main(String[] args) {
        colours();
        clique();
        lowest();
        place();
        c.finish();
    }

    private static void colours() {
        WellsNotEven none = new WellsNotEven();
        none.weeks(0);
        c.due("no farms", none.colours(), 0);
        c.row("no farms", none);
        WellsNotEven x = Check.of("7;7;7");
        c.due("none touch", x.colours(), 1);
        c.row("none touch", x, 0, 0, 0);
        WellsNotEven ring = Check.of("0;0;0;0;0;ab;bc;cd;de;ea");
        c.due("a ring of five", ring.colours(), 3);
        c.row("a ring of five", ring, 0, 1, 0, 1, 2);
        WellsNotEven path = Check.of("0;0;0;0;ac;cd;db");
        c.due("the first alike would want three", path.colours(), 2);
        c.row("the first alike would want three", path, 0, 1, 1, 0);
        WellsNotEven crowd = BucketsTest.crowd(5);
        c.due("nine", crowd.colours(), 9);
        c.row("nine", crowd, 0, 1, 2, 3, 4, 5, 6, 7, 8);
        crowd.touch(0, 8, -1);
        c.due("eight", crowd.colours(), 8);
        c.row("eight", crowd, 0, 1, 2, 3, 4, 5, 6, 7, 0);
    }

    private static void clique() {
        WellsNotEven none = new WellsNotEven();
        c.due("no farms", none.clique(), 0);
        c.row("no farms", none, 0);
        WellsNotEven x = Check.of("1;1;1;1;1;1");
        c.due("none touch", x.clique(), 1);
        c.row("none touch", x, 1);
        Check.county(x, "ab;ae;be;bc;cd;bd");
        c.due("two of three, the least bits", x.clique(), 3);
        c.row("two of three, the least bits", x, 14);
        x.touch(0, 5, 3);
        x.touch(1, 5, 3);
        x.touch(4, 5, 3);
        c.due("four", x.clique(), 4);
        c.row("four", x, 51);
        WellsNotEven crowd = BucketsTest.crowd(5);
        c.due("nine", crowd.clique(), 9);
        c.row("nine", crowd, 511);
    }

    private static void lowest() {
        WellsNotEven none = new WellsNotEven();
        none.weeks(0);
        c.due("no farms", none.lowest(), 0);
        c.row("no farms", none);
        WellsNotEven ring = Check.of("9;9;9;9;9;ab;bc;cd;de;ea");
        c.due("a ring", ring.lowest(), 2);
        ring.law(0, 4);
        c.due("a ring", ring.lowest(), 8);
        c.row("a ring", ring, 0, 4, 0, 4, 8);
        c.depths("nothing changes", ring, 9, 9, 9, 9, 9);
        WellsNotEven crowd = BucketsTest.crowd(5);
        crowd.law(0, 9);
        c.due("nine", crowd.lowest(), 72);
        c.row("nine", crowd, 0, 9, 18, 27, 36, 45, 54, 63, 72);
        WellsNotEven x = Check.of("7;7");
        c.due("none touch", x.lowest(), 0);
        c.row("none touch", x, 0, 0);
    }

    private static void place() {
        WellsNotEven x = Check.of("0;50;99");
        c.due("touching none", x.place(0), 100);
        c.row("touching none", x, 0, 99);
        c.due("apart 1", x.place(7), 97);
        c.row("apart 1", x, 1, 98);
        x.law(0, 3);
        c.due("apart 3", x.place(5), 94);
        c.row("apart 3", x, 3, 96);
        c.due("one", x.place(2), 95);
        c.row("one", x, 0, 99);
        c.due("bits of none such", x.place(8), -1);
        c.due("bits of none such", x.place(-1), -1);
        c.row("the row stays", x, 0, 99);
        WellsNotEven y = Check.of("8;25;42;59;76;93");
        y.law(0, 9);
        c.due("but one", y.place(31), 15);
        c.row("but one", y, 85, 99);
        y.set(0, 5, 90);
        c.due("one depth", y.place(63), 1);
        c.row("one depth", y, 99, 99);
        y.set(0, 5, 93);
        c.due("nowhere", y.place(63), 0);
        c.row("nowhere", y);
    }
}
