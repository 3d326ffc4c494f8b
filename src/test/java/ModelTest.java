import java.util.ArrayList;
import java.util.Arrays;
import java.util.List;
import java.util.NoSuchElementException;
import java.util.Random;

/**
 * Long runs of calls, chosen by a fixed seed, on the program and on PlainWells at once: every answer and
 * all that can be seen of the state is compared after every call. How many runs may be told as an argument.
 */
public final class ModelTest {
    private static final String[] CALLS = {"sign", "end", "county", "farm", "stone", "touch", "law", "set", "sheet",
        "carry", "night", "week", "weeks", "undo", "even", "fewest", "reach", "selfish", "rests", "alter", "fill",
        "colours", "clique", "lowest", "place", "lasts", "later", "still", "keeps", "mercy", "drought", "clash",
        "payer", "pray", "seal", "road", "boon", "seen", "forget", "springs", "stones", "nights", "sunday",
        "divide", "keep", "again", "count", "row"};
    private static final String[] BUSY = {"carry", "night", "week", "carry", "night", "weeks", "rests", "undo"};
    private static final int THROWN = -12345;

    private final Random random;
    private final WellsNotEven x = new WellsNotEven();
    private final PlainWells y = new PlainWells();
    private final List<String> calls = new ArrayList<>();

    private ModelTest(long seed) {
        random = new Random(seed);
    }

    public static void main(String[] args) {
        int runs = args.length > 0 ? Integer.parseInt(args[0]) : 250;
        long first = args.length > 1 ? Long.parseLong(args[1]) : 1;
        for (long seed = first; seed < first + runs; seed++) {
            ModelTest test = new ModelTest(seed);
            String wrong = test.run();
            if (wrong != null) {
                for (String call : test.calls) {
                    System.out.println("  " + call);
                }
                System.out.println("seed " + seed + ": " + wrong);
                System.exit(1);
            }
        }
        System.out.println("ModelTest: " + runs + " runs, all answers alike");
    }

    private String run() {
        int length = 40 + random.nextInt(120);
        boolean busy = random.nextInt(5) == 0;
        String wrong = begin();
        for (int i = 0; i < length && wrong == null; i++) {
            String name = CALLS[random.nextInt(CALLS.length)];
            if (busy && random.nextBoolean()) {
                name = BUSY[random.nextInt(BUSY.length)];
            }
            if (name.equals("night") && random.nextInt(4) > 0) {
                tellText(randomNight());
            }
            if (name.equals("county") && random.nextInt(4) > 0) {
                tellText(randomCounty());
            }
            wrong = call(name);
        }
        return wrong;
    }

    /** A few runs begin with nothing, some with a crowd of farms that nearly all touch. */
    private String begin() {
        int kind = random.nextInt(8);
        if (kind == 0) {
            return null;
        }
        tellText(kind < 3 ? crowd() : randomCounty());
        String wrong = call("county");
        for (int a = 0; a < y.farms() && kind < 3; a++) {
            for (int b = 0; b < a; b++) {
                int stone = random.nextInt(6) == 0 ? -1 : random.nextInt(10);
                y.touch(a, b, stone);
                x.touch(a, b, stone);
            }
        }
        if (kind % 2 == 0 && wrong == null) {
            wrong = callWith("law", 0, 1 + random.nextInt(9));
        }
        return wrong;
    }

    private String crowd() {
        StringBuilder s = new StringBuilder();
        int farms = 6 + random.nextInt(4);
        int spread = random.nextBoolean() ? 100 : 30;
        for (int i = 0; i < farms; i++) {
            s.append(i > 0 ? ";" : "").append(random.nextInt(spread)).append('+').append(random.nextInt(10));
        }
        return s.toString();
    }

    private String call(String name) {
        int[] v = {0, 0, 0, 0};
        choose(name, v);
        return callWith(name, v);
    }

    private String callWith(String name, int... args) {
        int[] v = Arrays.copyOf(args, 4);
        if (name.equals("lowest") && !isCheapForModel()) {
            return null;
        }
        int got = onProgram(name, v);
        int want = onModel(name, v);
        String told = name + "(" + v[0] + ", " + v[1] + ", " + v[2] + ", " + v[3] + ")";
        calls.add(told + " = " + want);
        if (got != want) {
            return told + " answered " + got + ", the model " + want;
        }
        String sees = stateOf(true);
        String due = stateOf(false);
        return sees.equals(due) ? null : told + " left " + sees + ", the model " + due;
    }

    /** The model tries all rows one by one. */
    private boolean isCheapForModel() {
        return y.farms() <= 4 || (y.farms() <= 6 && y.law[0] <= 2);
    }

    private String stateOf(boolean program) {
        StringBuilder s = new StringBuilder();
        for (int what = 0; what <= 8; what++) {
            s.append(program ? x.count(what) : y.count(what)).append(' ');
        }
        int farms = y.farms();
        for (int f = 0; f < farms; f++) {
            for (int what = 0; what <= 4; what++) {
                s.append(program ? x.farm(f, what) : y.farm(f, what)).append(what == 4 ? "; " : ",");
            }
            for (int g = f + 1; g < farms; g++) {
                s.append(program ? x.stone(f, g) : y.stone(f, g)).append(g == farms - 1 ? " " : "/");
            }
        }
        for (int i = 0; i < y.row.size(); i++) {
            s.append(" row ").append(program ? x.row(i) : y.row(i));
        }
        return s.toString();
    }

    // ---- what is asked

    private int farmNumber() {
        int farms = y.farms();
        return random.nextInt(12) == 0 || farms == 0 ? odd() : random.nextInt(farms);
    }

    private int odd() {
        int[] odd = {-1, -2, 0, 1, 8, 9, 10, Integer.MAX_VALUE, Integer.MIN_VALUE, y.farms()};
        return odd[random.nextInt(odd.length)];
    }

    private int upTo(int least, int most) {
        int kind = random.nextInt(20);
        if (kind == 0) {
            return random.nextBoolean() ? least - 1 : most + 1;
        }
        if (kind == 1) {
            return odd();
        }
        return kind == 2 ? (random.nextBoolean() ? least : most) : least + random.nextInt(most - least + 1);
    }

    private int farmBits() {
        int kind = random.nextInt(10);
        if (kind == 0) {
            return 1 << random.nextInt(32);
        }
        return kind == 1 ? random.nextInt() : random.nextInt(1 << y.farms());
    }

    private void choose(String name, int[] v) {
        switch (name) {
            case "sign": v[0] = random.nextInt(); break;
            case "end": v[0] = upTo(0, y.text.length()); break;
            case "farm": v[0] = farmNumber(); v[1] = upTo(0, 4); break;
            case "stone": case "carry": case "clash": case "stones": case "road":
                v[0] = farmNumber(); v[1] = farmNumber();
                for (int tries = 0; tries < 3 && y.is(v[0]) && y.stone(v[0], v[1]) < 0; tries++) {
                    v[1] = farmNumber();
                }
                break;
            case "touch": v[0] = farmNumber(); v[1] = farmNumber(); v[2] = upTo(-1, 9); break;
            case "law": v[0] = upTo(0, 2); v[1] = upTo(0, 9); break;
            case "set": v[0] = upTo(0, 1); v[1] = farmNumber(); v[2] = v[0] == 0 ? upTo(0, 99) : upTo(0, 9); break;
            case "sheet":
                v[0] = upTo(0, 3); v[1] = upTo(0, 9);
                v[2] = random.nextInt(3) == 0 ? random.nextInt() : random.nextInt(120) - 10;
                v[3] = random.nextInt(3) == 0 ? random.nextInt() : random.nextInt(60) - 30; break;
            case "week": v[0] = upTo(-9, 9); v[1] = farmBits(); break;
            case "weeks": v[0] = upTo(0, 50); break;
            case "reach": v[0] = upTo(0, 4); break;
            case "selfish": case "alter": case "springs": v[0] = farmNumber(); break;
            case "rests": v[0] = upTo(0, 40); break;
            case "fill": v[0] = farmNumber(); v[1] = upTo(0, 99); break;
            case "place": case "pray": v[0] = farmBits(); break;
            case "later": v[0] = farmNumber(); v[1] = upTo(0, 100); break;
            case "keeps": v[0] = upTo(0, 12); v[1] = upTo(0, 2); break;
            case "mercy": case "payer": v[0] = upTo(0, 100); break;
            case "drought": v[0] = upTo(-9, 9); break;
            case "seen": chooseSeen(v); break;
            case "divide": v[0] = farmNumber(); v[1] = y.is(v[0]) && random.nextInt(4) > 0
                    ? y.farm(v[0], 2) & random.nextInt() : farmBits(); break;
            case "keep": case "again": v[0] = upTo(0, 2); break;
            case "count": v[0] = upTo(0, 8); break;
            case "row": v[0] = upTo(0, 3); break;
            default: break;
        }
    }

    /** Mostly something that will be so, for else hardly anything explains it. */
    private void chooseSeen(int[] v) {
        v[0] = upTo(1, 100);
        boolean likely = v[0] >= 1 && v[0] <= 100 && random.nextInt(4) > 0;
        v[1] = likely ? y.evenPairs(y.sundays(v[0]).get(v[0] - 1)).size() : upTo(0, 36);
    }

    private void tellText(String signs) {
        y.text = "";
        x.end(0);
        Check.tell(x, signs);
        Check.tell(x, "");
        y.text = signs.length() > 80 ? signs.substring(0, 80) : signs;
        calls.add("text " + signs);
    }

    private String randomCounty() {
        StringBuilder s = new StringBuilder();
        int there = y.farms();
        int lines = random.nextInt(8) + random.nextInt(12);
        boolean near = random.nextBoolean();
        for (int i = 0; i < lines; i++) {
            s.append(i > 0 ? ";" : "");
            if (there < 2 || (there < 9 && random.nextInt(3) == 0)) {
                s.append(near ? random.nextInt(20) : random.nextInt(100));
                s.append(random.nextInt(3) == 0 ? "+" + random.nextInt(10) : "");
                there++;
            } else {
                int a = random.nextInt(there);
                int b = (a + 1 + random.nextInt(there - 1)) % there;
                s.append((char) ('a' + a)).append((char) ('a' + b));
                s.append(random.nextInt(3) > 0 ? "/" + random.nextInt(10) : "");
            }
        }
        return spoilt(s);
    }

    private String randomNight() {
        StringBuilder s = new StringBuilder();
        int lines = random.nextInt(random.nextInt(4) == 0 ? 12 : 5);
        for (int i = 0; i < lines; i++) {
            int farms = Math.max(1, random.nextInt(6) == 0 ? 9 : y.farms());
            int from = random.nextInt(farms);
            int to = random.nextInt(farms);
            for (int tries = 0; tries < 5 && y.carried(y.water.depth, from, to) == null; tries++) {
                from = random.nextInt(farms);
                to = random.nextInt(farms);
            }
            s.append(i > 0 ? ";" : "").append((char) ('a' + from)).append('>').append((char) ('a' + to));
            s.append(random.nextInt(4) == 0 ? "*" + (1 + random.nextInt(9)) : "");
        }
        return spoilt(s);
    }

    private String spoilt(StringBuilder s) {
        if (random.nextInt(5) == 0 && s.length() > 0) {
            String signs = "0123456789abcdefghij+/;>*A `:";
            char sign = random.nextInt(8) == 0 ? (char) random.nextInt(256)
                    : signs.charAt(random.nextInt(signs.length()));
            int at = random.nextInt(s.length());
            switch (random.nextInt(4)) {
                case 0: s.setCharAt(at, sign); break;
                case 1: s.insert(at, sign); break;
                case 2: s.deleteCharAt(at); break;
                default: s.setLength(at); break;
            }
        }
        s.setLength(Math.min(80, s.length()));
        return s.toString();
    }

    // ---- the calls

    private int onProgram(String name, int[] v) {
        try {
            switch (name) {
                case "sign": return x.sign(v[0]);
                case "end": return x.end(v[0]) ? 1 : 0;
                case "county": return x.county();
                case "farm": return x.farm(v[0], v[1]);
                case "stone": return x.stone(v[0], v[1]);
                case "touch": return x.touch(v[0], v[1], v[2]) ? 1 : 0;
                case "law": return x.law(v[0], v[1]);
                case "set": return x.set(v[0], v[1], v[2]);
                case "sheet": return x.sheet(v[0], v[1], v[2], v[3]);
                case "carry": return x.carry(v[0], v[1]);
                case "night": return x.night();
                case "week": return x.week(v[0], v[1]);
                case "weeks": return x.weeks(v[0]);
                case "undo": return x.undo();
                case "even": return x.even();
                case "fewest": return x.fewest();
                case "reach": return x.reach(v[0]);
                case "selfish": return x.selfish(v[0]);
                case "rests": return x.rests(v[0]);
                case "alter": return x.alter(v[0]);
                case "fill": return x.fill(v[0], v[1]);
                case "colours": return x.colours();
                case "clique": return x.clique();
                case "lowest": return x.lowest();
                case "place": return x.place(v[0]);
                case "lasts": return x.lasts();
                case "later": return x.later(v[0], v[1]);
                case "still": return x.still();
                case "keeps": return x.keeps(v[0], v[1]);
                case "mercy": return x.mercy(v[0]);
                case "drought": return x.drought(v[0]);
                case "clash": return x.clash(v[0], v[1]);
                case "payer": return x.payer(v[0]);
                case "pray": return x.pray(v[0]);
                case "seal": return x.seal();
                case "road": return x.road(v[0], v[1]);
                case "boon": return x.boon();
                case "seen": return x.seen(v[0], v[1]);
                case "forget": return x.forget();
                case "springs": return x.springs(v[0]);
                case "stones": return x.stones(v[0], v[1]);
                case "nights": return x.nights();
                case "sunday": return x.sunday();
                case "divide": return x.divide(v[0], v[1]);
                case "keep": return x.keep(v[0]) ? 1 : 0;
                case "again": return x.again(v[0]) ? 1 : 0;
                case "count": return x.count(v[0]);
                default: return x.row(v[0]);
            }
        } catch (NoSuchElementException e) {
            return THROWN;
        }
    }

    private int onModel(String name, int[] v) {
        try {
            switch (name) {
                case "sign": return y.sign(v[0]);
                case "end": return y.end(v[0]) ? 1 : 0;
                case "county": return y.county();
                case "farm": return y.farm(v[0], v[1]);
                case "stone": return y.stone(v[0], v[1]);
                case "touch": return y.touch(v[0], v[1], v[2]) ? 1 : 0;
                case "law": return y.law(v[0], v[1]);
                case "set": return y.set(v[0], v[1], v[2]);
                case "sheet": return y.sheet(v[0], v[1], v[2], v[3]);
                case "carry": return y.carry(v[0], v[1]);
                case "night": return y.night();
                case "week": return y.week(v[0], v[1]);
                case "weeks": return y.weeks(v[0]);
                case "undo": return y.undo();
                case "even": return y.even();
                case "fewest": return y.fewest();
                case "reach": return y.reach(v[0]);
                case "selfish": return y.selfish(v[0]);
                case "rests": return y.rests(v[0]);
                case "alter": return y.alter(v[0]);
                case "fill": return y.fill(v[0], v[1]);
                case "colours": return y.colours();
                case "clique": return y.clique();
                case "lowest": return y.lowest();
                case "place": return y.place(v[0]);
                case "lasts": return y.lasts();
                case "later": return y.later(v[0], v[1]);
                case "still": return y.still();
                case "keeps": return y.keeps(v[0], v[1]);
                case "mercy": return y.mercy(v[0]);
                case "drought": return y.drought(v[0]);
                case "clash": return y.clash(v[0], v[1]);
                case "payer": return y.payer(v[0]);
                case "pray": return y.pray(v[0]);
                case "seal": return y.seal();
                case "road": return y.road(v[0], v[1]);
                case "boon": return y.boon();
                case "seen": return y.seen(v[0], v[1]);
                case "forget": return y.forget();
                case "springs": return y.springs(v[0]);
                case "stones": return y.stones(v[0], v[1]);
                case "nights": return y.nights();
                case "sunday": return y.sunday();
                case "divide": return y.divide(v[0], v[1]);
                case "keep": return y.keep(v[0]) ? 1 : 0;
                case "again": return y.again(v[0]) ? 1 : 0;
                case "count": return y.count(v[0]);
                default: return y.row(v[0]);
            }
        } catch (NoSuchElementException e) {
            return THROWN;
        }
    }
}
