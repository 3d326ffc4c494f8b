/** Promises 17 to 22: buckets. */
public final class BucketsTest {
    private static final Check c = new Check("BucketsTest");

    public static void main(String[] args) {
        fewest();
        fewestAtTheEdge();
        reach();
        selfish();
        rests();
        alter();
        fill();
        c.finish();
    }

    /** All of nine farms touch. */
    static WellsNotEven crowd(int depth) {
        WellsNotEven x = new WellsNotEven();
        Check.county(x, "1;1;1;1;1;1;1;1;1");
        for (int a = 0; a < 9; a++) {
            for (int b = 0; b < a; b++) {
                x.touch(a, b, 0);
            }
        }
        x.sheet(2, 9, depth, 0);
        return x;
    }

    private static void fewest() {
        WellsNotEven x = Check.of("5;5;5;ab;bc;ac");
        c.due("one will do", x.fewest(), 1);
        c.row("one will do", x, 1);
        c.depths("nothing is carried", x, 5, 5, 5);
        x.law(0, 3);
        c.due("5 5 5 to 2 8 5", x.fewest(), 3);
        c.row("the least row", x, 1, 1, 1);
        x.law(2, 3);
        c.due("by greater buckets", x.fewest(), 1);
        c.row("by greater buckets", x, 1);
        x.carry(0, 1);
        c.due("lawful", x.fewest(), 0);
        c.row("lawful", x);
        WellsNotEven y = Check.of("0;0;1;ab;bc");
        y.law(0, 3);
        y.even();
        c.due("too little water", y.fewest(), -2);
        c.row("the row stays", y, 0, 1, 7);
        WellsNotEven z = crowd(50);
        z.law(0, 9);
        z.weeks(0);
        c.due("too many", z.fewest(), -3);
        c.row("the row stays", z, 0);
        WellsNotEven w = Check.of("4;4;9;9;ab;cd");
        w.law(0, 9);
        c.due("long ways", w.fewest(), -2);
        w.sheet(2, 4, 20, 0);
        c.due("of two pairs, the least row", w.fewest(), 10);
        c.row("of two pairs, the least row", w, 1, 1, 1, 1, 1, 23, 23, 23, 23, 23);
    }

    /** Pairs of farms that hold 49 and 59 inches have 50 times 60 depths; two dry ones are never lawful. */
    private static void fewestAtTheEdge() {
        WellsNotEven x = Check.of("49;0;59;0;0;0;ab;cd;ef");
        c.due("3000 are looked through", x.fewest(), -2);
        x.set(0, 3, 1);
        c.due("3050 are not", x.fewest(), -3);
        WellsNotEven y = Check.of("1;0;18;0;78;0;0;0;ab;cd;ef;gh");
        c.due("2 times 19 times 79 are not", y.fewest(), -3);
        y.set(0, 4, 77);
        c.due("2 times 19 times 78 are", y.fewest(), -2);
    }

    private static void reach() {
        WellsNotEven x = Check.of("5;5;ab");
        c.due("by none", x.reach(0), 1);
        c.row("by none", x, 0, 1);
        c.due("by one", x.reach(1), 3);
        c.row("by one", x, 2, 0);
        c.due("by two", x.reach(2), 5);
        c.row("by two", x, 4, 0);
        c.due("by four", x.reach(4), 9);
        x.law(0, 9);
        c.due("by four, none lawful", x.reach(4), 9);
        c.row("by four, none lawful", x, 0, 1);
        c.due("5", x.reach(5), -1);
        c.due("-1", x.reach(-1), -1);
        c.row("the row stays", x, 0, 1);
        x.law(2, 3);
        c.due("little water", x.reach(4), 3);
        WellsNotEven y = crowd(50);
        c.due("nine by one", y.reach(1), 73);
        c.row("nine by one", y, 0, 21);
        c.due("nine by two", y.reach(2), 1405);
        c.due("nine by three", y.reach(3), -3);
        c.due("nine by four", y.reach(4), -3);
        WellsNotEven z = Check.of("49;0;59;0;ab;cd");
        c.due("a alone gives b, c alone gives d", z.reach(4), 15);
        c.due("b is full, and so is a", Check.of("99;99;5;ab;bc").reach(1), 2);
        reachAtTheEdge("2;2;2;2;2;3;3;ab;ac;bd;ae;ef;ag;af;bc;gc;bf", 3000, 3000);
        reachAtTheEdge("3;1;3;3;1;1;1;2;ab;ac;cd;ae;df;dg;fh;dc;cg;dh", 3001, -3);
    }

    /** Counted by the model, that can look through more. */
    private static void reachAtTheEdge(String county, int depths, int due) {
        PlainWells plain = new PlainWells();
        plain.text = county;
        plain.county();
        c.due(county + ", the model", plain.find(plain.water.depth, 4, 4000).size(), depths);
        c.due(county, Check.of(county).reach(4), due);
    }

    private static void selfish() {
        WellsNotEven x = Check.of("5;5;5;ab;ac");
        c.due("to the first", x.selfish(0), 1);
        c.row("to the first", x, 0);
        c.due("to the only one", x.selfish(2), 0);
        c.row("to the only one", x, 0);
        x.law(0, 9);
        c.due("of as good ones not to", x.selfish(0), -1);
        c.row("of as good ones not to", x, 2);
        c.due("none such", x.selfish(3), -2);
        c.due("none such", x.selfish(-1), -2);
        c.row("the row stays", x, 2);
        x.law(0, 1);
        x.sheet(2, 3, 0, 0);
        c.due("no water", x.selfish(0), -1);
        c.row("no water", x, 2);
        x.sheet(2, 3, 99, 0);
        c.due("no room", x.selfish(0), -1);
        WellsNotEven y = Check.of("5;6;3;5;ab;ac;ad");
        c.due("a and d are even: 4 7 3 5", y.selfish(0), 1);
        c.row("a and d are even: 4 7 3 5", y, 0);
        y.sheet(2, 4, 5, 0);
        y.set(0, 1, 4);
        c.due("to b: 4 5 5 5; it is free", y.selfish(0), 1);
        y.set(0, 2, 4);
        y.set(0, 1, 3);
        y.law(0, 2);
        c.due("a would fall nearer", y.selfish(0), -1);
        c.depths("nothing is carried", y, 5, 3, 4, 5);
    }

    private static void rests() {
        WellsNotEven x = Check.of("5;5;ab");
        c.due("two rounds", x.rests(40), 2);
        c.row("two rounds", x, 1, 0);
        c.depths("two rounds", x, 4, 6);
        c.due("as one", x.count(5), 1);
        c.due("it rests", x.rests(40), 1);
        c.row("it rests", x, 1, 0);
        c.due("nothing carried", x.count(5), 1);
        x.undo();
        c.due("one round", x.rests(1), 1);
        c.row("no last one", x, 0, 0);
        x.undo();
        c.due("no round", x.rests(0), 0);
        c.row("no round", x, 0, 1);
        c.due("41", x.rests(41), -1);
        c.due("-1", x.rests(-1), -1);
        c.row("the row stays", x, 0, 1);
        x.law(0, 9);
        c.due("it rests, though even", x.rests(3), 1);
        c.row("it rests, though even", x, 1, 1);
        restless();
    }

    /** 1 1 0: a frees itself to c (0 1 1), b to a (1 0 1), c to b (1 1 0), and so on without end. */
    private static void restless() {
        WellsNotEven x = Check.of("1;1;0;ab;bc;ac");
        c.due("a gives c", x.selfish(0), 2);
        c.due("without end", x.rests(40), 40);
        c.row("without end", x, 0, 1);
        c.depths("without end", x, 1, 1, 0);
        c.due("that can be undone, though it is as it was", x.count(5), 1);
    }

    private static void alter() {
        WellsNotEven x = Check.of("50;50;20;ab");
        x.law(0, 3);
        c.due("the lesser", x.alter(0), 3);
        c.row("the lesser", x, 47);
        x.set(0, 0, 51);
        c.due("the nearer", x.alter(0), 2);
        c.row("the nearer", x, 53);
        c.due("none touches", x.alter(2), 0);
        c.row("none touches", x, 20);
        x.sheet(2, 2, 1, 0);
        c.due("not below 0", x.alter(0), 3);
        c.row("not below 0", x, 4);
        x.sheet(2, 2, 98, 0);
        c.due("98", x.alter(1), 3);
        c.row("98", x, 95);
        c.due("none such", x.alter(3), -1);
        c.due("none such", x.alter(-1), -1);
        WellsNotEven y = Check.of("40;8;25;42;59;76;93;ab;ac;ad;ae;af;ag");
        y.law(0, 9);
        y.weeks(0);
        c.due("no depth", y.alter(0), -2);
        c.row("the row stays", y, 0);
        y.set(0, 6, 94);
        c.due("one depth", y.alter(0), 45);
        c.row("one depth", y, 85);
        c.due("nothing changes", y.farm(0, 0), 40);
        y.set(0, 6, 90);
        y.set(0, 0, 0);
        c.due("the highest alone", y.alter(0), 99);
        c.row("the highest alone", y, 99);
        WellsNotEven z = Check.of("3;3;ab");
        z.law(0, 3);
        c.due("to 0", z.alter(0), 3);
        c.row("to 0", z, 0);
    }

    private static void fill() {
        WellsNotEven x = Check.of("50;50;ab");
        c.due("none", x.fill(0, 50), 0);
        c.row("none", x);
        c.due("none for 0", x.fill(0, 0), 0);
        c.due("ten", x.fill(1, 60), 10);
        c.row("ten", x, 1, 1, 1, 1, 1, 1, 1, 1, 1, 1);
        c.due("49", x.fill(0, 99), 49);
        c.row("ten of 49", x, 10, 10, 10, 10, 10, 10, 10, 10, 10, 10);
        x.law(2, 7);
        c.due("49 inches by 7", x.fill(0, 99), 7);
        c.due("no farm", x.fill(2, 1), -1);
        c.due("no farm", x.fill(-1, 1), -1);
        c.due("100", x.fill(0, 100), -1);
        c.due("-1", x.fill(0, -1), -1);
        x.set(0, 1, 40);
        x.weeks(0);
        c.due("too little", x.fill(0, 91), -2);
        c.row("the row stays", x, 0);
        WellsNotEven y = Check.of("5;5;5;ab;bc");
        c.due("two", y.fill(1, 7), 2);
        c.row("two", y, 1, 1);
        c.due("seven", y.fill(0, 11), 7);
        c.row("the least row", y, 10, 10, 10, 10, 10, 21, 10);
        WellsNotEven far = Check.of("20;0;0;ab;bc");
        c.due("a long way", far.fill(2, 6), 12);
        c.row("its first ten", far, 1, 1, 1, 1, 1, 1, 12, 12, 12, 12);
        WellsNotEven z = crowd(50);
        z.weeks(0);
        c.due("too many", z.fill(0, 99), -3);
        c.row("the row stays", z, 0);
        c.due("two of many", z.fill(8, 52), 2);
        c.row("two of many", z, 8, 8);
    }
}
