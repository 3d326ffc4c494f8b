/** Promises 11 to 16: nights and weeks. */
public final class NightsTest {
    private static final Check c = new Check("NightsTest");

    public static void main(String[] args) {
        carry();
        night();
        nightFaults();
        seep();
        rain();
        fines();
        weeks();
        undo();
        undoTwenty();
        undoOfNothing();
        even();
        c.finish();
    }

    private static void carry() {
        WellsNotEven x = Check.of("10;5;97;ab;bc");
        x.law(2, 3);
        c.due("carry", x.carry(0, 1), 7);
        c.depths("carry", x, 7, 8, 97);
        c.due("no room", x.carry(1, 2), -3);
        x.set(0, 2, 96);
        c.due("just room", x.carry(1, 2), 5);
        c.depths("just room", x, 7, 5, 99);
        c.due("do not touch", x.carry(0, 2), -2);
        c.due("like ones", x.carry(0, 0), -1);
        c.due("none such", x.carry(0, 3), -1);
        c.due("none such", x.carry(-1, 0), -1);
        x.law(2, 8);
        c.due("not so much", x.carry(0, 1), -3);
        x.law(2, 7);
        c.due("just so much", x.carry(0, 1), 0);
        c.depths("just so much", x, 0, 12, 99);
        c.due("what can be undone", x.count(5), 3);
    }

    private static void night() {
        WellsNotEven x = Check.of("10;5;50;ab;bc");
        c.due("a night", Check.night(x, "a>b*3;c>b;b>a"), 5);
        c.row("a night", x, 0);
        c.depths("a night", x, 8, 8, 49);
        c.due("as one", x.count(5), 1);
        c.due("till one can't be", Check.night(x, "a>b*9;b>c"), 8);
        c.row("till one can't be", x, 1);
        c.depths("till one can't be", x, 0, 16, 49);
        c.due("the same one", Check.night(x, "b>b"), 0);
        c.row("the same one", x, 1);
        c.due("do not touch", Check.night(x, "b>a;c>a;b>a"), 1);
        c.row("do not touch", x, 1);
        c.due("none there", Check.night(x, "a>i"), 0);
        c.row("none there", x, 1);
        c.due("none there", Check.night(x, "h>a*2"), 0);
        c.row("none there", x, 1);
        c.due("an empty one", Check.night(x, ""), 0);
        c.row("an empty one", x, 0);
        c.depths("nothing is carried", x, 1, 15, 49);
        c.due("three can be undone", x.count(5), 3);
        c.due("longest", Check.night(x, "b>a;a>b;b>a;a>b;b>a;a>b;b>a;a>b;b>a;a>b"), 10);
    }

    private static void nightFault(String text, int p) {
        WellsNotEven x = Check.of("50;50;ab");
        x.weeks(3);
        c.due("night " + text, Check.night(x, text), -1 - p);
        c.depths(text, x, 50, 50);
        c.row(text, x, 0);
        c.due(text + ": THE TEXT is emptied", x.count(8), 0);
    }

    private static void nightFaults() {
        nightFault("j>a", 0);
        nightFault("A>a", 0);
        nightFault("1", 0);
        nightFault(";a>b", 0);
        nightFault("a", 1);
        nightFault("ab", 1);
        nightFault("a>", 2);
        nightFault("a>j", 2);
        nightFault("a>b;", 4);
        nightFault("a>bc", 3);
        nightFault("a>b*", 4);
        nightFault("a>b*0", 4);
        nightFault("a>b*12", 5);
        nightFault("a>b*1;;", 6);
        nightFault("a>b;a>b/1", 7);
        nightFault("a>b;".repeat(10), 40);
        nightFault("a>b;".repeat(10) + "a", 40);
        nightFault("a>b;".repeat(9) + "a>b;x", 40);
        nightFault("a>b;".repeat(9) + "a>bbb", 39);
    }

    private static void seep() {
        WellsNotEven x = Check.of("40;10;10;ab/1;ac/2;bc");
        c.due("none even", x.week(0, 0), 0);
        c.depths("from the deeper to both", x, 18, 25, 17);
        WellsNotEven y = Check.of("40;20;0;ab/1;bc/1");
        y.week(0, 0);
        c.depths("all at once", y, 30, 20, 10);
        WellsNotEven cut = Check.of("10;5;ab/3");
        cut.week(0, 0);
        c.depths("cut to none", cut, 10, 5);
        cut.set(0, 0, 16);
        cut.week(0, 0);
        c.depths("cut to one", cut, 15, 6);
        WellsNotEven much = Check.of("90;0;0;10;20;ab/1;ac/1;de/2;ae/9");
        much.week(0, 0);
        c.depths("would give 93 of 90: nothing through any", much, 90, 0, 0, 12, 18);
        much.touch(0, 4, 0);
        much.sheet(2, 1, 90, 0);
        much.week(0, 0);
        c.depths("90 of 90 it gives", much, 0, 45, 45, 0, 0);
        WellsNotEven tight = Check.of("90;0;ab/0");
        tight.week(0, 0);
        c.depths("tight", tight, 90, 0);
    }

    private static void rain() {
        WellsNotEven x = Check.of("98+5;3+1;50;95+2");
        c.due("rain", x.week(9, 7), 0);
        c.row("lost above 99", x, 0, 13);
        c.depths("rain", x, 99, 13, 59, 97);
        c.due("drought", x.week(-9, 11), 0);
        c.row("nothing lost", x, 0, 0);
        c.depths("spring and drought together", x, 95, 5, 59, 90);
        x.week(-9, 2);
        c.depths("0 at least", x, 99, 0, 59, 92);
        c.row("lost", x, 0, 1);
        c.due("WEEKS", x.count(1), 3);
        c.due("rain 10", x.week(10, 0), -1);
        c.due("rain -10", x.week(-10, 0), -1);
        c.due("bits of none such", x.week(0, 16), -1);
        c.due("bits of none such", x.week(0, Integer.MIN_VALUE), -1);
        c.due("WEEKS stay", x.count(1), 3);
        c.row("the row stays", x, 0, 1);
        WellsNotEven over = new WellsNotEven();
        Check.county(over, "90;99;99;99;99;99;99;99;99;ab/1;ac/1;ad/1;ae/1;af/1;ag/1;ah/1;ai/1");
        over.week(-9, 1);
        c.row("seep above 99 is lost last of all: 122 - 9", over, 0, 14);
        c.due("99 then", over.farm(0, 0), 99);
    }

    private static void fines() {
        WellsNotEven x = Check.of("10;11;12;50;ab;bc;ac");
        x.law(0, 2);
        x.law(1, 3);
        c.due("two pairs", x.week(0, 0), 2);
        c.row("two pairs", x, 12, 0);
        c.due("a", x.farm(0, 4), 3);
        c.due("b", x.farm(1, 4), 6);
        c.due("c", x.farm(2, 4), 3);
        c.due("d", x.farm(3, 4), 0);
        x.law(1, 0);
        c.due("no fine", x.week(0, 0), 2);
        c.row("no fine", x, 0, 0);
        c.due("in all", x.count(3), 12);
    }

    private static void weeks() {
        WellsNotEven x = Check.of("0+1;3;ab");
        c.due("none", x.weeks(0), 0);
        c.row("none", x, 0);
        c.due("not kept", x.count(5), 0);
        x.weeks(1);
        c.due("one is kept", x.count(5), 1);
        x.undo();
        x.law(0, 2);
        c.due("weeks: 1, 2 e, 3 e, 4 e, 5", x.weeks(5), 6);
        c.row("lawful on two", x, 2);
        c.due("as one", x.count(5), 1);
        c.due("WEEKS", x.count(1), 5);
        c.depths("weeks", x, 5, 3);
        c.due("50", x.weeks(50), 0);
        c.row("50", x, 50);
        c.due("51", x.weeks(51), -1);
        c.due("-1", x.weeks(-1), -1);
        c.due("WEEKS", x.count(1), 55);
        c.row("the row stays", x, 50);
    }

    private static void undo() {
        WellsNotEven x = Check.of("5+1;5;ab");
        x.law(1, 2);
        c.due("none", x.undo(), -1);
        x.carry(0, 1);
        Check.night(x, "a>b;b>a*2");
        x.week(3, 1);
        x.weeks(4);
        c.depths("all", x, 13, 5);
        c.due("left", x.undo(), 3);
        c.depths("weeks undone", x, 9, 5);
        c.due("WEEKS", x.count(1), 1);
        x.set(0, 1, 70);
        x.set(1, 1, 7);
        c.due("left", x.undo(), 2);
        c.depths("week undone, depths set later with it", x, 5, 5);
        c.due("springs stay", x.farm(1, 1), 7);
        c.due("left", x.undo(), 1);
        c.depths("night undone", x, 4, 6);
        c.due("left", x.undo(), 0);
        c.depths("carry undone", x, 5, 5);
        c.due("none left", x.undo(), -1);
        x.set(1, 0, 0);
        x.set(1, 1, 0);
        x.weeks(2);
        c.due("paid", x.count(3), 8);
        x.undo();
        c.due("paid is as it was", x.count(3), 0);
        c.due("of each", x.farm(1, 4), 0);
        x.rests(9);
        c.depths("rests", x, 4, 6);
        c.due("rests() undone", x.undo(), 0);
        c.depths("rests undone", x, 5, 5);
    }

    private static void undoTwenty() {
        WellsNotEven x = Check.of("50;0;ab");
        for (int i = 0; i < 25; i++) {
            x.carry(0, 1);
        }
        c.due("20 are kept", x.count(5), 20);
        for (int i = 19; i >= 0; i--) {
            c.due("left", x.undo(), i);
        }
        c.depths("the first five stay", x, 45, 5);
        c.due("none left", x.undo(), -1);
        for (int i = 0; i < 30; i++) {
            x.carry(0, 1);
            x.undo();
        }
        c.depths("round and round", x, 45, 5);
    }

    private static void undoOfNothing() {
        WellsNotEven x = Check.of("0;1;ab");
        x.carry(0, 1);
        Check.night(x, "a>b");
        Check.night(x, "");
        x.weeks(0);
        x.rests(5);
        x.week(10, 0);
        c.due("nothing was carried", x.count(5), 0);
        x.week(0, 0);
        c.due("a week went by", x.count(5), 1);
        x.keep(0);
        x.again(2);
        x.divide(7, 0);
        c.due("refused calls forget nothing", x.count(5), 1);
        x.again(0);
        c.due("again() forgets", x.count(5), 0);
        x.week(0, 0);
        x.divide(0, 0);
        c.due("divide() forgets", x.count(5), 0);
    }

    private static void even() {
        WellsNotEven x = Check.of("9;20;10;21;60;ac;bd/3;ed");
        c.due("none", x.even(), 0);
        c.row("none", x, 0);
        x.law(0, 2);
        c.due("two", x.even(), 2);
        c.row("two", x, 0, 2, 15);
        x.set(0, 0, 30);
        c.due("one", x.even(), 1);
        c.row("one", x, 1, 3, 10);
        x.touch(1, 3, -1);
        c.due("they do not touch", x.even(), 0);
        c.row("they do not touch", x, 0);
    }
}
