import java.util.ArrayDeque;
import java.util.ArrayList;
import java.util.Arrays;
import java.util.LinkedHashMap;
import java.util.List;
import java.util.Map;
import java.util.NoSuchElementException;

/**
 * The document once more, in the slowest and plainest words that do, with the whole Java library: what
 * ModelTest holds the program against. It shares no code and few ways with the program.
 */
final class PlainWells {
    static final int NONE = -1;

    /** All that a night or a week changes. */
    static final class Water {
        final List<Integer> depth = new ArrayList<>();
        final List<Integer> spring = new ArrayList<>();
        final List<Integer> paid = new ArrayList<>();
        int weeks = 0;

        Water copy() {
            Water w = new Water();
            w.depth.addAll(depth);
            w.spring.addAll(spring);
            w.paid.addAll(paid);
            w.weeks = weeks;
            return w;
        }
    }

    String text = "";
    Water water = new Water();
    Map<String, Integer> stones = new LinkedHashMap<>();
    int[] law = {1, 1, 1};
    List<Integer> row = new ArrayList<>();
    List<Water> undos = new ArrayList<>();
    Water[] keptWater = new Water[3];
    int[][] keptLaw = new int[3][];
    List<int[]> told = new ArrayList<>();

    // ---- helpers

    int farms() {
        return water.depth.size();
    }

    boolean is(int f) {
        return f >= 0 && f < farms();
    }

    boolean areBits(int bits) {
        for (int i = 0; i < 32; i++) {
            if ((bits >>> i) % 2 != 0 && !is(i)) {
                return false;
            }
        }
        return true;
    }

    static String key(int a, int b) {
        return Math.min(a, b) + "-" + Math.max(a, b);
    }

    Integer between(int a, int b) {
        return stones.get(key(a, b));
    }

    boolean evens(List<Integer> d, int a, int b) {
        return between(a, b) != null && Math.abs(d.get(a) - d.get(b)) < law[0];
    }

    List<int[]> evenPairs(List<Integer> d) {
        List<int[]> pairs = new ArrayList<>();
        for (int a = 0; a < farms(); a++) {
            for (int b = a + 1; b < farms(); b++) {
                if (evens(d, a, b)) {
                    pairs.add(new int[] {a, b});
                }
            }
        }
        return pairs;
    }

    boolean lawful(List<Integer> d) {
        return evenPairs(d).isEmpty();
    }

    int lostLast = 0;

    List<Integer> afterWeek(List<Integer> d, List<Integer> spring, Map<String, Integer> stoneMap, int rain, int bits) {
        int n = d.size();
        int[][] flow = new int[n][n];
        for (int a = 0; a < n; a++) {
            for (int b = 0; b < n; b++) {
                Integer s = a == b ? null : stoneMap.get(key(a, b));
                if (s != null && s != 0 && d.get(a) > d.get(b)) {
                    flow[a][b] = (d.get(a) - d.get(b)) / (2 * s);
                }
            }
        }
        for (int a = 0; a < n; a++) {
            if (Arrays.stream(flow[a]).sum() > d.get(a)) {
                Arrays.fill(flow[a], 0);
            }
        }
        lostLast = 0;
        List<Integer> next = new ArrayList<>();
        for (int a = 0; a < n; a++) {
            int v = d.get(a) - Arrays.stream(flow[a]).sum();
            for (int b = 0; b < n; b++) {
                v += flow[b][a];
            }
            v += spring.get(a);
            if ((bits & (1 << a)) != 0) {
                v += rain;
            }
            if (v > 99) {
                lostLast += v - 99;
                v = 99;
            }
            next.add(v < 0 ? 0 : v);
        }
        return next;
    }

    List<Integer> afterWeek(List<Integer> d) {
        return afterWeek(d, water.spring, stones, 0, 0);
    }

    /** DEPTHS on each of so many Sundays to come. */
    List<List<Integer>> sundays(List<Integer> d, List<Integer> spring, Map<String, Integer> stoneMap, int n) {
        List<List<Integer>> all = new ArrayList<>();
        List<Integer> now = d;
        for (int i = 0; i < n; i++) {
            now = afterWeek(now, spring, stoneMap, 0, 0);
            all.add(now);
        }
        return all;
    }

    List<List<Integer>> sundays(int n) {
        return sundays(water.depth, water.spring, stones, n);
    }

    List<Integer> carried(List<Integer> d, int from, int to) {
        if (!is(from) || !is(to) || from == to || between(from, to) == null) {
            return null;
        }
        if (d.get(from) < law[2] || d.get(to) > 99 - law[2]) {
            return null;
        }
        List<Integer> next = new ArrayList<>(d);
        next.set(from, d.get(from) - law[2]);
        next.set(to, d.get(to) + law[2]);
        return next;
    }

    static int sum(List<Integer> list) {
        int sum = 0;
        for (int v : list) {
            sum += v;
        }
        return sum;
    }

    void tell(int... v) {
        row = new ArrayList<>();
        for (int x : v) {
            row.add(x);
        }
    }

    void noteUndo(Water before) {
        undos.add(before);
        if (undos.size() > 20) {
            undos.remove(0);
        }
    }

    // ---- the county

    int sign(int v) {
        if (text.length() + 4 > 80) {
            return NONE;
        }
        for (int i = 3; i >= 0; i--) {
            text += (char) ((v >> (8 * i)) & 255);
        }
        return text.length();
    }

    boolean end(int n) {
        if (n < 0 || n > text.length()) {
            return false;
        }
        text = text.substring(0, n);
        return true;
    }

    /** The first p such that the signs up to it begin no text, or its end, or NONE. */
    int fault(String t, int most, boolean night) {
        if (t.isEmpty()) {
            return NONE;
        }
        for (int p = 0; p < t.length(); p++) {
            if (p == most || !begins(t.substring(0, p + 1), night, false)) {
                return p;
            }
        }
        return begins(t, night, true) ? NONE : t.length();
    }

    boolean begins(String t, boolean night, boolean whole) {
        String[] lines = t.split(";", -1);
        int there = farms();
        for (int i = 0; i < lines.length; i++) {
            boolean must = whole || i < lines.length - 1;
            if (night ? !nightLine(lines[i], must) : !countyLine(lines[i], must, there)) {
                return false;
            }
            if (!lines[i].isEmpty() && Character.isDigit(lines[i].charAt(0))) {
                there++;
            }
        }
        return true;
    }

    static boolean nightLine(String line, boolean whole) {
        return line.matches(whole ? "[a-i]>[a-i](\\*[1-9])?" : "([a-i](>([a-i](\\*[1-9]?)?)?)?)?");
    }

    static boolean countyLine(String line, boolean whole, int there) {
        if (line.isEmpty()) {
            return !whole;
        }
        if (line.charAt(0) >= '0' && line.charAt(0) <= '9') {
            return there < 9 && line.matches(whole ? "[0-9]{1,2}(\\+[0-9])?" : "[0-9]{1,2}(\\+[0-9]?)?");
        }
        if (!line.matches(whole ? "[a-i]{2}(/[0-9])?" : "[a-i]([a-i](/[0-9]?)?)?")) {
            return false;
        }
        boolean first = line.charAt(0) - 'a' < there;
        if (line.length() == 1) {
            return first;
        }
        return first && line.charAt(1) - 'a' < there && line.charAt(0) != line.charAt(1);
    }

    int county() {
        String t = text;
        text = "";
        int fault = fault(t, 76, false);
        if (fault != NONE) {
            return -1 - fault;
        }
        if (t.isEmpty()) {
            return 0;
        }
        for (String line : t.split(";")) {
            if (Character.isDigit(line.charAt(0))) {
                String[] parts = line.split("\\+");
                water.depth.add(Integer.parseInt(parts[0]));
                water.spring.add(parts.length > 1 ? Integer.parseInt(parts[1]) : 0);
                water.paid.add(0);
            } else {
                stones.put(key(line.charAt(0) - 'a', line.charAt(1) - 'a'),
                        line.length() > 2 ? line.charAt(3) - '0' : 0);
            }
        }
        undos.clear();
        return t.split(";").length;
    }

    int farm(int f, int what) {
        if (!is(f) || what < 0 || what > 4) {
            throw new NoSuchElementException();
        }
        int bits = 0;
        for (int g = 0; g < farms(); g++) {
            if (g != f && (what == 2 ? between(f, g) != null : evens(water.depth, f, g))) {
                bits += 1 << g;
            }
        }
        return what == 0 ? water.depth.get(f) : what == 1 ? water.spring.get(f) : what == 4 ? water.paid.get(f) : bits;
    }

    int stone(int a, int b) {
        if (!is(a) || !is(b) || a == b) {
            return NONE;
        }
        return between(a, b) == null ? -2 : between(a, b);
    }

    boolean touch(int a, int b, int stone) {
        if (!is(a) || !is(b) || a == b || stone < -1 || stone > 9) {
            return false;
        }
        if (stone == -1) {
            stones.remove(key(a, b));
        } else {
            stones.put(key(a, b), stone);
        }
        return true;
    }

    int law(int what, int v) {
        if (what < 0 || what > 2 || v > 9 || v < 0 || (v == 0 && what != 1)) {
            return NONE;
        }
        int was = law[what];
        law[what] = v;
        return was;
    }

    int set(int what, int f, int v) {
        if (!is(f) || v < 0 || (what != 0 && what != 1) || v > (what == 0 ? 99 : 9)) {
            return NONE;
        }
        return (what == 0 ? water.depth : water.spring).set(f, v);
    }

    int sheet(int kind, int n, int f, int step) {
        if (kind < 0 || kind > 3 || n > 9) {
            return NONE;
        }
        if (n < 0 && kind < 3) {
            return -2;
        }
        int entry = f;
        for (int i = 0; i < farms(); i++) {
            int v = 0;
            if (kind < 3 && i < n) {
                v = kind == 0 ? (byte) entry : kind == 1 ? (short) entry : entry;
                v = v < 0 ? 0 : v > 99 ? 99 : v;
            }
            water.depth.set(i, v);
            entry += step;
        }
        return kind == 3 ? -3 : sum(water.depth);
    }

    // ---- nights and weeks

    int carry(int from, int to) {
        if (!is(from) || !is(to) || from == to) {
            return NONE;
        }
        if (between(from, to) == null) {
            return -2;
        }
        List<Integer> next = carried(water.depth, from, to);
        if (next == null) {
            return -3;
        }
        noteUndo(water.copy());
        water.depth.clear();
        water.depth.addAll(next);
        return next.get(from);
    }

    int night() {
        String t = text;
        text = "";
        int fault = fault(t, 40, true);
        if (fault != NONE) {
            return -1 - fault;
        }
        List<int[]> buckets = new ArrayList<>();
        if (!t.isEmpty()) {
            for (String line : t.split(";")) {
                int times = line.length() > 3 ? line.charAt(4) - '0' : 1;
                for (int i = 0; i < times; i++) {
                    buckets.add(new int[] {line.charAt(0) - 'a', line.charAt(2) - 'a'});
                }
            }
        }
        Water before = water.copy();
        int done = 0;
        while (done < buckets.size()) {
            List<Integer> next = carried(water.depth, buckets.get(done)[0], buckets.get(done)[1]);
            if (next == null) {
                break;
            }
            water.depth.clear();
            water.depth.addAll(next);
            done++;
        }
        if (done > 0) {
            noteUndo(before);
        }
        tell(done < buckets.size() ? 1 : 0);
        return done;
    }

    int pass(int rain, int bits) {
        List<Integer> next = afterWeek(water.depth, water.spring, stones, rain, bits);
        water.depth.clear();
        water.depth.addAll(next);
        water.weeks++;
        for (int[] p : evenPairs(next)) {
            water.paid.set(p[0], water.paid.get(p[0]) + law[1]);
            water.paid.set(p[1], water.paid.get(p[1]) + law[1]);
        }
        return evenPairs(next).size();
    }

    int week(int rain, int farms) {
        if (rain < -9 || rain > 9 || !areBits(farms)) {
            return NONE;
        }
        noteUndo(water.copy());
        int before = sum(water.paid);
        int pairs = pass(rain, farms);
        tell(sum(water.paid) - before, lostLast);
        return pairs;
    }

    int weeks(int n) {
        if (n < 0 || n > 50) {
            return NONE;
        }
        if (n > 0) {
            noteUndo(water.copy());
        }
        int before = sum(water.paid);
        int lawful = 0;
        for (int i = 0; i < n; i++) {
            lawful += pass(0, 0) == 0 ? 1 : 0;
        }
        tell(lawful);
        return sum(water.paid) - before;
    }

    int undo() {
        if (undos.isEmpty()) {
            return NONE;
        }
        Water was = undos.remove(undos.size() - 1);
        water.depth.clear();
        water.depth.addAll(was.depth);
        water.paid.clear();
        water.paid.addAll(was.paid);
        water.weeks = was.weeks;
        return undos.size();
    }

    int even() {
        List<int[]> pairs = evenPairs(water.depth);
        int bits = 0;
        for (int[] p : pairs) {
            bits |= 1 << p[0] | 1 << p[1];
        }
        if (pairs.isEmpty()) {
            tell(0);
        } else {
            tell(pairs.get(0)[0], pairs.get(0)[1], bits);
        }
        return pairs.size();
    }

    // ---- buckets

    /** Found DEPTHS with the way to each, in the order of finding; null: more than 3000 (within a depth). */
    LinkedHashMap<List<Integer>, List<Integer>> find(List<Integer> start, int most, int room) {
        LinkedHashMap<List<Integer>, List<Integer>> found = new LinkedHashMap<>();
        ArrayDeque<List<Integer>> queue = new ArrayDeque<>();
        found.put(start, new ArrayList<>());
        queue.add(start);
        while (!queue.isEmpty()) {
            List<Integer> d = queue.poll();
            if (found.get(d).size() == most) {
                continue;
            }
            for (int move = 0; move < 99; move++) {
                List<Integer> next = carried(d, move / 10, move % 10);
                if (next != null && !found.containsKey(next)) {
                    List<Integer> way = new ArrayList<>(found.get(d));
                    way.add(move);
                    found.put(next, way);
                    queue.add(next);
                    if (found.size() > room) {
                        return found;
                    }
                }
            }
        }
        return found;
    }

    interface Goal {
        boolean met(List<Integer> depths);
    }

    int search(Goal goal) {
        LinkedHashMap<List<Integer>, List<Integer>> found = find(water.depth, Integer.MAX_VALUE, 3000);
        int i = 0;
        for (Map.Entry<List<Integer>, List<Integer>> e : found.entrySet()) {
            if (++i > 3000) {
                return -3;
            }
            if (goal.met(e.getKey())) {
                row = new ArrayList<>(e.getValue().subList(0, Math.min(10, e.getValue().size())));
                return e.getValue().size();
            }
        }
        return -2;
    }

    int fewest() {
        return search(this::lawful);
    }

    int reach(int n) {
        if (n < 0 || n > 4) {
            return NONE;
        }
        LinkedHashMap<List<Integer>, List<Integer>> found = find(water.depth, n, 3000);
        if (found.size() > 3000) {
            return -3;
        }
        int lawful = 0;
        int least = 99;
        for (List<Integer> d : found.keySet()) {
            lawful += lawful(d) ? 1 : 0;
            least = Math.min(least, evenPairs(d).size());
        }
        tell(lawful, least);
        return found.size();
    }

    int evensOf(List<Integer> d, int f) {
        int n = 0;
        for (int g = 0; g < farms(); g++) {
            n += g != f && evens(d, f, g) ? 1 : 0;
        }
        return n;
    }

    int best(int f) {
        int best = NONE;
        int with = evensOf(water.depth, f);
        for (int g = 0; g < farms(); g++) {
            List<Integer> next = carried(water.depth, f, g);
            if (next != null && evensOf(next, f) < with) {
                best = g;
                with = evensOf(next, f);
            }
        }
        return best;
    }

    int selfish(int f) {
        if (!is(f)) {
            return -2;
        }
        int to = best(f);
        tell(evensOf(to == NONE ? water.depth : carried(water.depth, f, to), f));
        return to;
    }

    int rests(int n) {
        if (n < 0 || n > 40) {
            return NONE;
        }
        Water before = water.copy();
        int rounds = 0;
        boolean rested = false;
        boolean any = false;
        while (rounds < n && !rested) {
            rested = true;
            for (int f = 0; f < farms(); f++) {
                int to = best(f);
                if (to != NONE) {
                    List<Integer> next = carried(water.depth, f, to);
                    water.depth.clear();
                    water.depth.addAll(next);
                    rested = false;
                    any = true;
                }
            }
            rounds++;
        }
        if (any) {
            noteUndo(before);
        }
        tell(rested ? 1 : 0, evenPairs(water.depth).size());
        return rounds;
    }

    int alter(int f) {
        if (!is(f)) {
            return NONE;
        }
        int best = NONE;
        for (int v = 0; v <= 99; v++) {
            List<Integer> d = new ArrayList<>(water.depth);
            d.set(f, v);
            if (evensOf(d, f) == 0 && (best == NONE
                    || Math.abs(v - water.depth.get(f)) < Math.abs(best - water.depth.get(f)))) {
                best = v;
            }
        }
        if (best == NONE) {
            return -2;
        }
        tell(best);
        return Math.abs(best - water.depth.get(f));
    }

    int fill(int f, int v) {
        if (!is(f) || v < 0 || v > 99) {
            return NONE;
        }
        return search(d -> d.get(f) >= v);
    }

    // ---- colours of depth

    /** All rows of numbers 0 .. most - 1, least first, till one suits; apart: how far those that touch are. */
    List<Integer> leastRow(List<Integer> begun, int most, int apart) {
        int f = begun.size();
        for (int g = 0; g < f - 1; g++) {
            if (between(f - 1, g) != null && Math.abs(begun.get(g) - begun.get(f - 1)) < apart) {
                return null;
            }
        }
        if (f == farms()) {
            return begun;
        }
        for (int c = 0; c < most; c++) {
            List<Integer> next = new ArrayList<>(begun);
            next.add(c);
            List<Integer> done = leastRow(next, most, apart);
            if (done != null) {
                return done;
            }
        }
        return null;
    }

    int colours() {
        int most = 0;
        while (leastRow(new ArrayList<>(), most, 1) == null) {
            most++;
        }
        row = leastRow(new ArrayList<>(), most, 1);
        return most;
    }

    int clique() {
        int best = 0;
        for (int set = 0; set < 1 << farms(); set++) {
            boolean all = true;
            for (int a = 0; a < farms(); a++) {
                for (int b = a + 1; b < farms(); b++) {
                    all &= (set >> a & 1) == 0 || (set >> b & 1) == 0 || between(a, b) != null;
                }
            }
            if (all && Integer.bitCount(set) > Integer.bitCount(best)) {
                best = set;
            }
        }
        tell(best);
        return Integer.bitCount(best);
    }

    int lowest() {
        int greatest = 0;
        while (leastRow(new ArrayList<>(), greatest + 1, law[0]) == null) {
            greatest++;
        }
        row = leastRow(new ArrayList<>(), greatest + 1, law[0]);
        return greatest;
    }

    int place(int farms) {
        if (!areBits(farms)) {
            return NONE;
        }
        List<Integer> free = new ArrayList<>();
        for (int v = 0; v <= 99; v++) {
            boolean ok = true;
            for (int g = 0; g < farms(); g++) {
                ok &= (farms >> g & 1) == 0 || Math.abs(v - water.depth.get(g)) >= law[0];
            }
            if (ok) {
                free.add(v);
            }
        }
        if (free.isEmpty()) {
            tell();
        } else {
            tell(free.get(0), free.get(free.size() - 1));
        }
        return free.size();
    }

    // ---- weeks to come

    int lasting(List<Integer> spring, Map<String, Integer> stoneMap) {
        int w = 1;
        for (List<Integer> d : sundays(water.depth, spring, stoneMap, 100)) {
            if (!lawful(d)) {
                return w;
            }
            w++;
        }
        return -2;
    }

    int lasts() {
        return lasting(water.spring, stones);
    }

    int later(int f, int n) {
        if (!is(f) || n < 0 || n > 100) {
            return NONE;
        }
        return n == 0 ? water.depth.get(f) : sundays(n).get(n - 1).get(f);
    }

    int still() {
        List<List<Integer>> all = new ArrayList<>();
        all.add(water.depth);
        all.addAll(sundays(101));
        for (int w = 0; w <= 100; w++) {
            if (all.get(w).equals(all.get(w + 1))) {
                tell(evenPairs(all.get(w)).size());
                return w;
            }
        }
        return -2;
    }

    int keeps(int n, int k) {
        if (n < 0 || n > 12 || k < 0 || k > 2) {
            return NONE;
        }
        List<Integer> now = water.depth;
        int buckets = 0;
        int w = 0;
        for (; w < n; w++) {
            LinkedHashMap<List<Integer>, List<Integer>> found = find(now, k, 3000);
            if (found.size() > 3000) {
                return -3;
            }
            List<Integer> chosen = null;
            for (List<Integer> d : found.keySet()) {
                if (chosen == null && lawful(afterWeek(d))) {
                    chosen = d;
                }
            }
            if (chosen == null) {
                break;
            }
            buckets += found.get(chosen).size();
            now = afterWeek(chosen);
        }
        tell(buckets);
        return w;
    }

    int mercy(int n) {
        if (n < 0 || n > 100) {
            return NONE;
        }
        Map<String, int[]> off = new LinkedHashMap<>();
        for (List<Integer> d : sundays(n)) {
            for (int[] p : evenPairs(d)) {
                off.put(key(p[0], p[1]), p);
            }
        }
        for (int size = 0; size <= farms(); size++) {
            for (int set = 0; set < 1 << farms(); set++) {
                boolean all = Integer.bitCount(set) == size;
                for (int[] p : off.values()) {
                    all &= (set >> p[0] & 1) == 1 || (set >> p[1] & 1) == 1;
                }
                if (all) {
                    tell(set);
                    return off.size();
                }
            }
        }
        throw new IllegalStateException();
    }

    int drought(int rain) {
        if (rain < -9 || rain > 9) {
            return NONE;
        }
        List<Integer> d = water.depth;
        for (int w = 1; w <= 100 && farms() > 1; w++) {
            d = afterWeek(d, water.spring, stones, rain, 511);
            if (d.stream().distinct().count() == 1) {
                return w;
            }
        }
        return -2;
    }

    int clash(int a, int b) {
        if (!is(a) || !is(b) || a == b) {
            return NONE;
        }
        List<List<Integer>> all = sundays(100);
        for (int w = 1; w <= 100; w++) {
            if (evens(all.get(w - 1), a, b)) {
                return w;
            }
        }
        return -2;
    }

    int payer(int n) {
        if (n < 0 || n > 100) {
            return NONE;
        }
        if (farms() == 0) {
            return -2;
        }
        int[] pays = new int[farms()];
        for (List<Integer> d : sundays(n)) {
            for (int f = 0; f < farms(); f++) {
                pays[f] += law[1] * evensOf(d, f);
            }
        }
        int best = 0;
        for (int f = farms() - 1; f >= 0; f--) {
            best = pays[f] >= pays[best] ? f : best;
        }
        tell(pays[best], Arrays.stream(pays).sum());
        return best;
    }

    int pray(int farms) {
        if (!areBits(farms)) {
            return -10;
        }
        int best = 99;
        int least = 99;
        for (int rain = 9; rain >= -9; rain--) {
            int pairs = evenPairs(afterWeek(water.depth, water.spring, stones, rain, farms)).size();
            if (pairs < least || (pairs == least && Math.abs(rain) <= Math.abs(best))) {
                least = pairs;
                best = rain;
            }
        }
        tell(least);
        return best;
    }

    static int rank(int lasting) {
        return lasting == -2 ? 1000 : lasting;
    }

    int seal() {
        int[] best = null;
        int longest = 0;
        for (int a = 0; a < farms(); a++) {
            for (int b = a + 1; b < farms(); b++) {
                if (between(a, b) != null && between(a, b) > 0) {
                    Map<String, Integer> tight = new LinkedHashMap<>(stones);
                    tight.put(key(a, b), 0);
                    int lasting = lasting(water.spring, tight);
                    if (best == null || rank(lasting) > rank(longest)) {
                        best = new int[] {a, b};
                        longest = lasting;
                    }
                }
            }
        }
        if (best == null) {
            return -2;
        }
        tell(best[1], longest);
        return best[0];
    }

    int road(int from, int to) {
        if (!is(from) || !is(to)) {
            return NONE;
        }
        ArrayDeque<List<Integer>> ways = new ArrayDeque<>();
        ways.add(new ArrayList<>(List.of(from)));
        while (!ways.isEmpty()) {
            List<Integer> way = ways.poll();
            int last = way.get(way.size() - 1);
            if (last == to) {
                row = new ArrayList<>(way.size() > 2 ? way.subList(1, way.size() - 1) : List.of());
                return way.size() - 1;
            }
            for (int g = 0; g < farms(); g++) {
                if (g != last && between(last, g) != null && !way.contains(g)) {
                    List<Integer> longer = new ArrayList<>(way);
                    longer.add(g);
                    ways.add(longer);
                }
            }
        }
        return -2;
    }

    int boon() {
        if (farms() == 0) {
            return -2;
        }
        int best = NONE;
        int longest = 0;
        for (int f = 0; f < farms(); f++) {
            List<Integer> more = new ArrayList<>(water.spring);
            more.set(f, Math.min(9, more.get(f) + 1));
            int lasting = lasting(more, stones);
            if (best == NONE || rank(lasting) > rank(longest)) {
                best = f;
                longest = lasting;
            }
        }
        tell(longest, lasts());
        return best;
    }

    // ---- what Sundays showed

    int seen(int n, int pairs) {
        if (n < 1 || n > 100 || pairs < 0 || pairs > 36 || told.size() >= 10) {
            return NONE;
        }
        told.add(new int[] {n, pairs});
        return told.size();
    }

    int forget() {
        if (told.isEmpty()) {
            return NONE;
        }
        told.remove(told.size() - 1);
        return told.size();
    }

    boolean explained(List<Integer> d, List<Integer> spring, Map<String, Integer> stoneMap) {
        List<List<Integer>> all = sundays(d, spring, stoneMap, 100);
        for (int[] t : told) {
            if (evenPairs(all.get(t[0] - 1)).size() != t[1]) {
                return false;
            }
        }
        return true;
    }

    int springs(int f) {
        if (!is(f)) {
            return NONE;
        }
        int bits = 0;
        for (int s = 0; s < 10; s++) {
            List<Integer> other = new ArrayList<>(water.spring);
            other.set(f, s);
            bits |= explained(water.depth, other, stones) ? 1 << s : 0;
        }
        return bits;
    }

    int stones(int a, int b) {
        if (!is(a) || !is(b) || a == b) {
            return NONE;
        }
        if (between(a, b) == null) {
            return -2;
        }
        int bits = 0;
        for (int s = 0; s < 10; s++) {
            Map<String, Integer> other = new LinkedHashMap<>(stones);
            other.put(key(a, b), s);
            bits |= explained(water.depth, water.spring, other) ? 1 << s : 0;
        }
        return bits;
    }

    int nights() {
        List<Integer> good = new ArrayList<>();
        for (int move = 0; move < 99; move++) {
            List<Integer> next = carried(water.depth, move / 10, move % 10);
            if (next != null && explained(next, water.spring, stones)) {
                good.add(move);
            }
        }
        int without = explained(water.depth, water.spring, stones) ? 1 : 0;
        if (good.isEmpty()) {
            tell(without);
        } else {
            tell(good.get(0), without);
        }
        return good.size();
    }

    int sunday() {
        if (farms() == 0) {
            return -2;
        }
        List<List<Integer>> ways = new ArrayList<>();
        ways.add(water.spring);
        for (int f = 0; f < farms(); f++) {
            if (water.spring.get(f) < 9) {
                List<Integer> more = new ArrayList<>(water.spring);
                more.set(f, more.get(f) + 1);
                ways.add(more);
            }
        }
        int best = 0;
        int least = 99;
        for (int w = 1; w <= 20; w++) {
            int[] tally = new int[40];
            for (List<Integer> way : ways) {
                tally[evenPairs(sundays(water.depth, way, stones, w).get(w - 1)).size()]++;
            }
            int most = Arrays.stream(tally).max().getAsInt();
            if (most < least) {
                least = most;
                best = w;
            }
        }
        tell(least);
        return best;
    }

    // ---- heirs, kept

    int divide(int f, int heirs) {
        if (!is(f) || farms() == 9) {
            return NONE;
        }
        for (int g = 0; g < 32; g++) {
            if ((heirs >>> g & 1) == 1 && (!is(g) || g == f || between(f, g) == null)) {
                return NONE;
            }
        }
        int heir = farms();
        int whole = water.depth.get(f);
        water.depth.add(whole / 2);
        water.depth.set(f, whole - whole / 2);
        water.spring.add(0);
        water.paid.add(0);
        for (int g = 0; g < heir; g++) {
            if ((heirs >>> g & 1) == 1) {
                stones.put(key(g, heir), stones.remove(key(f, g)));
            }
        }
        stones.put(key(f, heir), 0);
        undos.clear();
        return heir;
    }

    boolean keep(int i) {
        if (i < 0 || i > 2) {
            return false;
        }
        keptWater[i] = water.copy();
        keptLaw[i] = law.clone();
        return true;
    }

    boolean again(int i) {
        if (i < 0 || i > 2 || keptWater[i] == null || keptWater[i].depth.size() != farms()) {
            return false;
        }
        water = keptWater[i].copy();
        law = keptLaw[i].clone();
        undos.clear();
        return true;
    }

    int count(int what) {
        int[] all = {farms(), water.weeks, sum(water.depth), sum(water.paid), stones.size(), undos.size(),
            told.size(), row.size(), text.length()};
        return what < 0 || what > 8 ? NONE : all[what];
    }

    int row(int i) {
        if (i < 0 || i >= row.size()) {
            throw new NoSuchElementException();
        }
        return row.get(i);
    }
}
