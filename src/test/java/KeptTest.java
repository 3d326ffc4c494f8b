/** Promises 45 to 49: heirs, and what is kept and counted. */
public final class KeptTest {
    private static final Check c = new Check("KeptTest");

    public static void main(String[] args) {
        divide();
        divideRefused();
        keepAndAgain();
        againRefused();
        count();
        row();
        c.finish();
    }

    private static void divide() {
        WellsNotEven x = Check.of("11+4;11;20;ab/3;ac/5");
        x.week(-4, 1);
        c.due("paid", x.farm(0, 4), 1);
        c.due("the new one", x.divide(0, 2), 3);
        c.depths("half of 11, cut", x, 6, 11, 20, 5);
        c.due("spring of the old one", x.farm(0, 1), 4);
        c.due("spring of the new one", x.farm(3, 1), 0);
        c.due("paid stays", x.farm(0, 4), 1);
        c.due("nothing paid", x.farm(3, 4), 0);
        c.due("the old one touches", x.farm(0, 2), 12);
        c.due("the new one touches", x.farm(3, 2), 3);
        c.due("with its stone", x.stone(3, 1), 3);
        c.due("no more", x.stone(0, 1), -2);
        c.due("as before", x.stone(0, 2), 5);
        c.due("tight", x.stone(0, 3), 0);
        c.due("one more", x.divide(3, 0), 4);
        c.due("of 5", x.farm(4, 0), 2);
        c.due("the rest", x.farm(3, 0), 3);
        c.due("it touches the old one alone", x.farm(4, 2), 8);
        c.due("pairs", x.count(4), 4);
    }

    private static void divideRefused() {
        WellsNotEven x = Check.of("11;20;30;ab/3");
        c.due("none such", x.divide(3, 0), -1);
        c.due("none such", x.divide(-1, 0), -1);
        c.due("itself", x.divide(0, 1), -1);
        c.due("one that does not touch", x.divide(0, 6), -1);
        c.due("one that is not there", x.divide(0, 8), -1);
        c.due("the highest bit", x.divide(0, Integer.MIN_VALUE), -1);
        c.depths("nothing changes", x, 11, 20, 30);
        for (int i = 3; i < 9; i++) {
            c.due("the new one", x.divide(2, 0), i);
        }
        c.due("nine are there", x.divide(2, 0), -1);
        c.due("nine", x.count(0), 9);
    }

    private static void keepAndAgain() {
        WellsNotEven x = Check.of("5+1;5;ab/2");
        x.set(1, 1, 1);
        x.week(0, 0);
        c.due("keep", x.keep(0), true);
        x.law(0, 7);
        x.law(1, 8);
        x.law(2, 9);
        x.set(0, 0, 70);
        x.set(1, 1, 6);
        x.touch(0, 1, 9);
        x.weeks(3);
        x.seen(1, 1);
        c.due("keep", x.keep(2), true);
        c.due("again", x.again(0), true);
        c.depths("again", x, 6, 6);
        c.due("spring", x.farm(1, 1), 1);
        c.due("WEEKS", x.count(1), 1);
        c.due("paid", x.count(3), 2);
        c.due("APART", x.law(0, 1), 1);
        c.due("FINE", x.law(1, 1), 1);
        c.due("BUCKET", x.law(2, 1), 1);
        c.due("stones stay", x.stone(0, 1), 9);
        c.due("what was seen stays", x.count(6), 1);
        c.due("nothing to undo", x.count(5), 0);
        c.due("the other one", x.again(2), true);
        c.due("its WEEKS", x.count(1), 4);
        c.due("its APART", x.law(0, 7), 7);
        c.due("its spring", x.farm(1, 1), 6);
        c.due("the first once more", x.again(0), true);
        c.depths("the first once more", x, 6, 6);
        x.set(0, 0, 44);
        c.due("kept anew", x.keep(0), true);
        x.set(0, 0, 1);
        x.again(0);
        c.depths("kept anew", x, 44, 6);
    }

    private static void againRefused() {
        WellsNotEven x = Check.of("5;6");
        c.due("keep(-1)", x.keep(-1), false);
        c.due("keep(3)", x.keep(3), false);
        c.due("again(-1)", x.again(-1), false);
        c.due("again(3)", x.again(3), false);
        c.due("nothing kept", x.again(1), false);
        x.keep(1);
        c.due("another", x.again(0), false);
        x.set(0, 0, 9);
        Check.county(x, "7");
        c.due("farms came", x.again(1), false);
        c.depths("nothing changes", x, 9, 6, 7);
        x.keep(1);
        x.divide(0, 0);
        c.due("an heir came", x.again(1), false);
        WellsNotEven none = new WellsNotEven();
        c.due("nothing kept, no farms", none.again(0), false);
        none.keep(0);
        c.due("no farms kept", none.again(0), true);
    }

    private static void count() {
        WellsNotEven x = Check.of("5;6;7;ab;bc/2");
        x.law(0, 3);
        x.week(0, 0);
        x.week(1, 1);
        x.seen(3, 1);
        x.sign(0);
        c.due("FARMS", x.count(0), 3);
        c.due("WEEKS", x.count(1), 2);
        c.due("DEPTHS", x.count(2), 19);
        c.due("paid", x.count(3), 8);
        c.due("pairs", x.count(4), 2);
        c.due("undo", x.count(5), 2);
        c.due("seen", x.count(6), 1);
        c.due("the ROW", x.count(7), 2);
        c.due("THE TEXT", x.count(8), 4);
        c.due("another", x.count(9), -1);
        c.due("another", x.count(-1), -1);
    }

    private static void row() {
        WellsNotEven x = Check.of("5;6;ab");
        c.noRow("at first", x, 0);
        x.colours();
        c.due("first", x.row(0), 0);
        c.due("second", x.row(1), 1);
        c.noRow("two", x, 2);
        c.noRow("two", x, -1);
        c.noRow("two", x, Integer.MIN_VALUE);
        c.noRow("two", x, Integer.MAX_VALUE);
        x.lasts();
        x.carry(0, 1);
        x.undo();
        x.set(0, 0, 1);
        x.road(0, 9);
        c.row("calls that tell none, or are refused", x, 0, 1);
        x.weeks(0);
        c.row("a shorter one", x, 0);
        c.noRow("a shorter one", x, 1);
    }
}
