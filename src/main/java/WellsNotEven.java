import java.util.Arrays;
import java.util.NoSuchElementException;

/**
 * A county of farms whose wells must not stand too near one depth on Sunday.
 *
 * <p>The promises are those of ../shared/DOC.md. All rows are made by the constructor and used again:
 * no call makes anything but the exception that it throws.
 */
public final class WellsNotEven {

    public static final int NONE = -1;

    /** The -2 of the document: what is asked for is not there. */
    private static final int NOT_SO = -2;

    /** The -3 of the document: missing, no room, or more than can be looked through. */
    private static final int BEYOND = -3;

    private static final int NO_RAIN = -10;
    private static final int FARMS_MOST = 9;
    private static final int PAIRS_MOST = 36;
    private static final int DEPTH_MOST = 99;
    private static final int DIGIT_MOST = 9;
    private static final int RAIN_MOST = 9;

    private static final int APART = 0;
    private static final int FINE = 1;
    private static final int BUCKET = 2;
    private static final int LAWS = 3;

    private static final int BYTES = 0;
    private static final int SHORTS = 1;
    private static final int NO_SHEET = 3;

    private static final int SIGNS_MOST = 80;
    private static final int COUNTY_SIGNS = 76;
    private static final int NIGHT_SIGNS = 40;
    private static final int LINES_MOST = 40;

    private static final int NUMBERS_MOST = 10;
    private static final int UNDO_MOST = 20;
    private static final int KEPT_MOST = 3;
    private static final int TOLD_MOST = 10;

    private static final int WEEKS_AT_ONCE = 50;
    private static final int WEEKS_AHEAD = 100;
    private static final int ROUNDS_MOST = 40;
    private static final int REACH_MOST = 4;
    private static final int KEEPS_WEEKS = 12;
    private static final int KEEPS_BUCKETS = 2;
    private static final int SUNDAYS = 20;
    private static final int WAYS_MOST = FARMS_MOST + 1;

    private static final int FOUND_MOST = 3000;
    private static final int MOVES_MOST = 2 * PAIRS_MOST;
    private static final int DEPTH_BITS = 7;
    private static final int DEPTH_MASK = 127;
    private static final int SLOT_BITS = 13;
    private static final int SLOTS = 1 << SLOT_BITS;
    private static final int SLOTS_IN_ONE = 4;
    private static final int INDEX_BITS = 16;
    private static final int INDEX_MASK = (1 << INDEX_BITS) - 1;
    private static final long SPREAD = 0x9E3779B97F4A7C15L;

    private final Text text = new Text();
    private final Reader reader = new Reader();
    private final Land land = new Land();
    private final Ahead ahead = new Ahead();
    private final Search search = new Search();
    private final Graph graph = new Graph();
    private final Numbers numbers = new Numbers();
    private final Past past = new Past();
    private final Snapshot[] kept = new Snapshot[KEPT_MOST];
    private final Sightings sightings = new Sightings();
    private final int[] shown = new int[WAYS_MOST * SUNDAYS];

    public WellsNotEven() {
        for (int i = 0; i < KEPT_MOST; i++) {
            kept[i] = new Snapshot();
        }
    }

    // ---- the county

    public int sign(int v) {
        return text.append(v) ? text.size : NONE;
    }

    public boolean end(int n) {
        return text.cut(n);
    }

    public int county() {
        int fault = reader.readCounty(text, land.farms);
        text.cut(0);
        if (fault != NONE) {
            return -1 - fault;
        }
        if (reader.lines > 0) {
            past.clear();
        }
        for (int i = 0; i < reader.lines; i++) {
            if (reader.one[i] == NONE) {
                land.settle(reader.two[i], reader.three[i]);
            } else {
                land.join(reader.one[i], reader.two[i], reader.three[i]);
            }
        }
        return reader.lines;
    }

    public int farm(int f, int what) throws NoSuchElementException {
        if (!land.has(f)) {
            throw new NoSuchElementException("no such farm");
        }
        switch (what) {
            case 0:
                return land.depth[f];
            case 1:
                return land.spring[f];
            case 2:
                return land.touching(f);
            case 3:
                return land.evenWith(f);
            case 4:
                return land.paid[f];
            default:
                throw new NoSuchElementException("a farm has nothing such");
        }
    }

    public int stone(int a, int b) {
        if (!land.hasTwo(a, b)) {
            return NONE;
        }
        int between = land.between(a, b);
        return between == NONE ? NOT_SO : between;
    }

    public boolean touch(int a, int b, int stone) {
        if (!land.hasTwo(a, b) || !isWithin(stone, NONE, DIGIT_MOST)) {
            return false;
        }
        land.join(a, b, stone);
        return true;
    }

    public int law(int what, int v) {
        if (!isWithin(what, APART, BUCKET) || !isWithin(v, what == FINE ? 0 : 1, DIGIT_MOST)) {
            return NONE;
        }
        int was = land.rules[what];
        land.rules[what] = v;
        return was;
    }

    public int set(int what, int f, int v) {
        if (!land.has(f) || !isWithin(what, 0, 1) || !isWithin(v, 0, what == 0 ? DEPTH_MOST : DIGIT_MOST)) {
            return NONE;
        }
        int[] changed = what == 0 ? land.depth : land.spring;
        int was = changed[f];
        changed[f] = v;
        return was;
    }

    public int sheet(int kind, int n, int f, int step) {
        if (!isWithin(kind, BYTES, NO_SHEET) || n > FARMS_MOST) {
            return NONE;
        }
        if (kind != NO_SHEET && n < 0) {
            return NOT_SO;
        }
        int entries = kind == NO_SHEET ? 0 : n;
        for (int i = 0; i < land.farms; i++) {
            land.depth[i] = i < entries ? putToDepth(entryOf(kind, f + i * step)) : 0;
        }
        return kind == NO_SHEET ? BEYOND : land.allDepths();
    }

    private static int entryOf(int kind, int v) {
        if (kind == BYTES) {
            return (byte) v;
        }
        return kind == SHORTS ? (short) v : v;
    }

    private static int putToDepth(int v) {
        return Math.max(0, Math.min(DEPTH_MOST, v));
    }

    private static boolean isWithin(int v, int least, int most) {
        return v >= least && v <= most;
    }

    // ---- nights and weeks

    public int carry(int from, int to) {
        if (!land.hasTwo(from, to)) {
            return NONE;
        }
        if (land.between(from, to) == NONE) {
            return NOT_SO;
        }
        if (!land.canCarry(from, to)) {
            return BEYOND;
        }
        past.note(land);
        past.keepNoted();
        land.bring(from, to);
        return land.depth[from];
    }

    public int night() {
        int fault = reader.readNight(text);
        text.cut(0);
        if (fault != NONE) {
            return -1 - fault;
        }
        past.note(land);
        boolean stopped = false;
        int carried = 0;
        for (int i = 0; i < reader.lines && !stopped; i++) {
            int brought = bringTimes(reader.one[i], reader.two[i], reader.three[i]);
            carried += brought;
            stopped = brought < reader.three[i];
        }
        if (carried > 0) {
            past.keepNoted();
        }
        numbers.tell(stopped ? 1 : 0);
        return carried;
    }

    private int bringTimes(int from, int to, int times) {
        int brought = 0;
        while (brought < times && land.canCarry(from, to)) {
            land.bring(from, to);
            brought++;
        }
        return brought;
    }

    public int week(int rain, int farms) {
        if (!isWithin(rain, -RAIN_MOST, RAIN_MOST) || !land.hasAll(farms)) {
            return NONE;
        }
        past.note(land);
        past.keepNoted();
        int pairs = letWeekPass(rain, farms);
        numbers.tell(2 * pairs * land.rules[FINE]);
        numbers.add(ahead.lost);
        return pairs;
    }

    public int weeks(int n) {
        if (!isWithin(n, 0, WEEKS_AT_ONCE)) {
            return NONE;
        }
        past.note(land);
        if (n > 0) {
            past.keepNoted();
        }
        int paid = 0;
        int lawful = 0;
        for (int i = 0; i < n; i++) {
            int pairs = letWeekPass(0, 0);
            paid += 2 * pairs * land.rules[FINE];
            lawful += pairs == 0 ? 1 : 0;
        }
        numbers.tell(lawful);
        return paid;
    }

    /** How many pairs are EVEN then, and have paid. */
    private int letWeekPass(int rain, int farms) {
        ahead.look(land);
        ahead.pass(rain, farms);
        System.arraycopy(ahead.depth, 0, land.depth, 0, FARMS_MOST);
        ahead.payInto(land.paid, land.rules[FINE]);
        land.weeksGone++;
        return ahead.evenPairs();
    }

    public int undo() {
        if (past.size == 0) {
            return NONE;
        }
        past.goBack(land);
        return past.size;
    }

    public int even() {
        ahead.look(land);
        int first = ahead.firstEven();
        int farms = 0;
        for (int f = 0; f < land.farms; f++) {
            farms |= land.evenWith(f) != 0 ? 1 << f : 0;
        }
        numbers.clear();
        if (first != NONE) {
            numbers.add(ahead.first[first]);
            numbers.add(ahead.second[first]);
        }
        numbers.add(farms);
        return ahead.evenPairs();
    }

    // ---- buckets

    public int fewest() {
        return fewestSuch(NONE, 0);
    }

    private int fewestSuch(int farm, int depth) {
        prepareSearch();
        int at = search.firstSuch(ahead, farm, depth);
        if (at < 0) {
            return at;
        }
        return search.tellWay(at, numbers);
    }

    private void prepareSearch() {
        ahead.look(land);
        search.prepare(land);
    }

    public int reach(int n) {
        if (!isWithin(n, 0, REACH_MOST)) {
            return NONE;
        }
        prepareSearch();
        if (!search.findWithin(ahead.pack(), n)) {
            return BEYOND;
        }
        int lawful = 0;
        int fewest = PAIRS_MOST;
        for (int i = 0; i < search.found; i++) {
            ahead.unpack(search.keys[i]);
            int pairs = ahead.evenPairs();
            lawful += pairs == 0 ? 1 : 0;
            fewest = Math.min(fewest, pairs);
        }
        numbers.tell(lawful);
        numbers.add(fewest);
        return search.found;
    }

    public int selfish(int f) {
        if (!land.has(f)) {
            return NOT_SO;
        }
        int to = land.bestFor(f);
        numbers.tell(land.evensAfter(f, to));
        return to;
    }

    public int rests(int n) {
        if (!isWithin(n, 0, ROUNDS_MOST)) {
            return NONE;
        }
        past.note(land);
        boolean rested = false;
        boolean carried = false;
        int rounds = 0;
        while (rounds < n && !rested) {
            rested = !carryRound();
            carried = carried || !rested;
            rounds++;
        }
        if (carried) {
            past.keepNoted();
        }
        ahead.look(land);
        numbers.tell(rested ? 1 : 0);
        numbers.add(ahead.evenPairs());
        return rounds;
    }

    /** Whether anybody carried. */
    private boolean carryRound() {
        boolean carried = false;
        for (int f = 0; f < land.farms; f++) {
            int to = land.bestFor(f);
            if (to != NONE) {
                land.bring(f, to);
                carried = true;
            }
        }
        return carried;
    }

    public int alter(int f) {
        if (!land.has(f)) {
            return NONE;
        }
        int touching = land.touching(f);
        for (int by = 0; by <= DEPTH_MOST; by++) {
            int less = land.depth[f] - by;
            int more = land.depth[f] + by;
            if (less >= 0 && land.isFree(less, touching)) {
                numbers.tell(less);
                return by;
            }
            if (more <= DEPTH_MOST && land.isFree(more, touching)) {
                numbers.tell(more);
                return by;
            }
        }
        return NOT_SO;
    }

    public int fill(int f, int v) {
        if (!land.has(f) || !isWithin(v, 0, DEPTH_MOST)) {
            return NONE;
        }
        return fewestSuch(f, v);
    }

    // ---- colours of depth

    public int colours() {
        graph.look(land);
        int fewest = graph.paintAll();
        tellColours(1);
        return fewest;
    }

    private void tellColours(int apart) {
        numbers.clear();
        for (int f = 0; f < graph.farms; f++) {
            numbers.add(graph.colour[f] * apart);
        }
    }

    public int clique() {
        graph.look(land);
        int farms = graph.largestKnot();
        numbers.tell(farms);
        return Integer.bitCount(farms);
    }

    /**
     * DEPTHS cut down to multiples of APART stay LAWFUL, so the least row is the least row of colours
     * times APART.
     */
    public int lowest() {
        graph.look(land);
        int fewest = graph.paintAll();
        tellColours(land.rules[APART]);
        return Math.max(0, fewest - 1) * land.rules[APART];
    }

    public int place(int farms) {
        if (!land.hasAll(farms)) {
            return NONE;
        }
        int free = 0;
        int lowest = 0;
        int highest = 0;
        for (int d = 0; d <= DEPTH_MOST; d++) {
            if (land.isFree(d, farms)) {
                lowest = free == 0 ? d : lowest;
                highest = d;
                free++;
            }
        }
        numbers.clear();
        if (free > 0) {
            numbers.add(lowest);
            numbers.add(highest);
        }
        return free;
    }

    // ---- weeks to come

    public int lasts() {
        ahead.look(land);
        return weeksTold(ahead.lasting());
    }

    private static int weeksTold(int lasting) {
        return lasting > WEEKS_AHEAD ? NOT_SO : lasting;
    }

    public int later(int f, int n) {
        if (!land.has(f) || !isWithin(n, 0, WEEKS_AHEAD)) {
            return NONE;
        }
        ahead.look(land);
        for (int i = 0; i < n; i++) {
            ahead.pass(0, 0);
        }
        return ahead.depth[f];
    }

    public int still() {
        ahead.look(land);
        for (int w = 0; w <= WEEKS_AHEAD; w++) {
            int pairs = ahead.evenPairs();
            ahead.pass(0, 0);
            if (ahead.settled) {
                numbers.tell(pairs);
                return w;
            }
        }
        return NOT_SO;
    }

    public int keeps(int n, int k) {
        if (!isWithin(n, 0, KEEPS_WEEKS) || !isWithin(k, 0, KEEPS_BUCKETS)) {
            return NONE;
        }
        prepareSearch();
        int buckets = 0;
        int lawfulWeeks = 0;
        boolean lawful = true;
        while (lawfulWeeks < n && lawful) {
            if (!search.findWithin(ahead.pack(), k)) {
                return BEYOND;
            }
            int at = search.firstLawfulOnSunday(ahead);
            lawful = at != NONE;
            if (lawful) {
                buckets += search.stepsTo(at);
                lawfulWeeks++;
            }
        }
        numbers.tell(buckets);
        return lawfulWeeks;
    }

    public int mercy(int n) {
        if (!isWithin(n, 0, WEEKS_AHEAD)) {
            return NONE;
        }
        ahead.look(land);
        graph.clear(land.farms);
        for (int w = 0; w < n; w++) {
            ahead.pass(0, 0);
            ahead.markEven(graph);
        }
        numbers.tell(graph.smallestCover());
        return graph.pairs();
    }

    public int drought(int rain) {
        if (!isWithin(rain, -RAIN_MOST, RAIN_MOST)) {
            return NONE;
        }
        if (land.farms < 2) {
            return NOT_SO;
        }
        ahead.look(land);
        for (int w = 1; w <= WEEKS_AHEAD; w++) {
            ahead.pass(rain, land.everyone());
            if (ahead.allAlike()) {
                return w;
            }
        }
        return NOT_SO;
    }

    public int clash(int a, int b) {
        if (!land.hasTwo(a, b)) {
            return NONE;
        }
        ahead.look(land);
        int pair = ahead.pairOf(a, b);
        if (pair == NONE) {
            return NOT_SO;
        }
        for (int w = 1; w <= WEEKS_AHEAD; w++) {
            ahead.pass(0, 0);
            if (ahead.isEven(pair)) {
                return w;
            }
        }
        return NOT_SO;
    }

    public int payer(int n) {
        if (!isWithin(n, 0, WEEKS_AHEAD)) {
            return NONE;
        }
        if (land.farms == 0) {
            return NOT_SO;
        }
        ahead.look(land);
        ahead.clearPaid();
        for (int w = 0; w < n; w++) {
            ahead.pass(0, 0);
            ahead.payInto(ahead.paid, land.rules[FINE]);
        }
        int most = 0;
        int all = 0;
        for (int f = 0; f < land.farms; f++) {
            all += ahead.paid[f];
            most = ahead.paid[f] > ahead.paid[most] ? f : most;
        }
        numbers.tell(ahead.paid[most]);
        numbers.add(all);
        return most;
    }

    public int pray(int farms) {
        if (!land.hasAll(farms)) {
            return NO_RAIN;
        }
        int best = 0;
        int fewest = evenAfterRain(0, farms);
        for (int size = 1; size <= RAIN_MOST; size++) {
            for (int rain = -size; rain <= size; rain += 2 * size) {
                int pairs = evenAfterRain(rain, farms);
                if (pairs < fewest) {
                    fewest = pairs;
                    best = rain;
                }
            }
        }
        numbers.tell(fewest);
        return best;
    }

    private int evenAfterRain(int rain, int farms) {
        ahead.look(land);
        ahead.pass(rain, farms);
        return ahead.evenPairs();
    }

    public int seal() {
        ahead.look(land);
        int best = NONE;
        int longest = 0;
        for (int p = 0; p < ahead.pairs; p++) {
            int was = ahead.stone[p];
            if (was > 0) {
                ahead.rewind(land);
                ahead.stone[p] = 0;
                int lasting = ahead.lasting();
                ahead.stone[p] = was;
                if (best == NONE || lasting > longest) {
                    best = p;
                    longest = lasting;
                }
            }
        }
        if (best == NONE) {
            return NOT_SO;
        }
        numbers.tell(ahead.second[best]);
        numbers.add(weeksTold(longest));
        return ahead.first[best];
    }

    public int road(int from, int to) {
        if (!land.has(from) || !land.has(to)) {
            return NONE;
        }
        graph.look(land);
        graph.measureTo(to);
        int steps = graph.steps[from];
        if (steps == NONE) {
            return NOT_SO;
        }
        numbers.clear();
        int at = from;
        for (int left = steps - 1; left > 0; left--) {
            at = graph.nearer(at, left);
            numbers.add(at);
        }
        return steps;
    }

    public int boon() {
        if (land.farms == 0) {
            return NOT_SO;
        }
        ahead.look(land);
        int asItIs = ahead.lasting();
        int best = NONE;
        int longest = 0;
        for (int f = 0; f < land.farms; f++) {
            ahead.rewind(land);
            ahead.spring[f] = Math.min(DIGIT_MOST, land.spring[f] + 1);
            int lasting = ahead.lasting();
            ahead.spring[f] = land.spring[f];
            if (best == NONE || lasting > longest) {
                best = f;
                longest = lasting;
            }
        }
        numbers.tell(weeksTold(longest));
        numbers.add(weeksTold(asItIs));
        return best;
    }

    // ---- what Sundays showed

    public int seen(int n, int pairs) {
        if (!isWithin(n, 1, WEEKS_AHEAD) || !isWithin(pairs, 0, PAIRS_MOST) || sightings.size == TOLD_MOST) {
            return NONE;
        }
        sightings.add(n, pairs);
        return sightings.size;
    }

    public int forget() {
        if (sightings.size == 0) {
            return NONE;
        }
        sightings.size--;
        return sightings.size;
    }

    public int springs(int f) {
        if (!land.has(f)) {
            return NONE;
        }
        ahead.look(land);
        int bits = 0;
        for (int s = 0; s <= DIGIT_MOST; s++) {
            ahead.rewind(land);
            ahead.spring[f] = s;
            bits |= sightings.holdFor(ahead) ? 1 << s : 0;
        }
        return bits;
    }

    public int stones(int a, int b) {
        if (!land.hasTwo(a, b)) {
            return NONE;
        }
        ahead.look(land);
        int pair = ahead.pairOf(a, b);
        if (pair == NONE) {
            return NOT_SO;
        }
        int bits = 0;
        for (int s = 0; s <= DIGIT_MOST; s++) {
            ahead.rewind(land);
            ahead.stone[pair] = s;
            bits |= sightings.holdFor(ahead) ? 1 << s : 0;
        }
        return bits;
    }

    public int nights() {
        ahead.look(land);
        boolean without = sightings.holdFor(ahead);
        int explain = 0;
        numbers.clear();
        for (int from = 0; from < land.farms; from++) {
            for (int to = 0; to < land.farms; to++) {
                if (land.canCarry(from, to) && wouldExplain(from, to)) {
                    if (explain == 0) {
                        numbers.add(10 * from + to);
                    }
                    explain++;
                }
            }
        }
        numbers.add(without ? 1 : 0);
        return explain;
    }

    private boolean wouldExplain(int from, int to) {
        ahead.rewind(land);
        ahead.depth[from] -= land.rules[BUCKET];
        ahead.depth[to] += land.rules[BUCKET];
        return sightings.holdFor(ahead);
    }

    public int sunday() {
        if (land.farms == 0) {
            return NOT_SO;
        }
        int ways = showAllWays();
        int best = 0;
        int fewest = ways + 1;
        for (int w = 0; w < SUNDAYS; w++) {
            int left = mostAlike(w, ways);
            if (left < fewest) {
                fewest = left;
                best = w;
            }
        }
        numbers.tell(fewest);
        return best + 1;
    }

    /** How many ways there are; nobody's SPRING being more is the first. */
    private int showAllWays() {
        ahead.look(land);
        showWay(0);
        int ways = 1;
        for (int f = 0; f < land.farms; f++) {
            if (land.spring[f] < DIGIT_MOST) {
                ahead.rewind(land);
                ahead.spring[f] = land.spring[f] + 1;
                showWay(ways);
                ahead.spring[f] = land.spring[f];
                ways++;
            }
        }
        return ways;
    }

    private void showWay(int way) {
        for (int w = 0; w < SUNDAYS; w++) {
            ahead.pass(0, 0);
            shown[way * SUNDAYS + w] = ahead.evenPairs();
        }
    }

    private int mostAlike(int sunday, int ways) {
        int most = 0;
        for (int i = 0; i < ways; i++) {
            int alike = 0;
            for (int j = 0; j < ways; j++) {
                alike += shown[i * SUNDAYS + sunday] == shown[j * SUNDAYS + sunday] ? 1 : 0;
            }
            most = Math.max(most, alike);
        }
        return most;
    }

    // ---- heirs

    public int divide(int f, int heirs) {
        if (!land.has(f) || (heirs & ~land.touching(f)) != 0 || land.farms == FARMS_MOST) {
            return NONE;
        }
        int half = land.depth[f] / 2;
        int heir = land.settle(half, 0);
        land.depth[f] -= half;
        for (int g = 0; g < heir; g++) {
            if ((heirs >> g & 1) == 1) {
                land.join(heir, g, land.between(f, g));
                land.join(f, g, NONE);
            }
        }
        land.join(f, heir, 0);
        past.clear();
        return heir;
    }

    // ---- kept

    public boolean keep(int i) {
        if (!isWithin(i, 0, KEPT_MOST - 1)) {
            return false;
        }
        kept[i].take(land);
        return true;
    }

    public boolean again(int i) {
        if (!isWithin(i, 0, KEPT_MOST - 1) || kept[i].farms != land.farms) {
            return false;
        }
        kept[i].giveWeeks(land);
        kept[i].giveSpringsAndLaw(land);
        past.clear();
        return true;
    }

    public int count(int what) {
        switch (what) {
            case 0:
                return land.farms;
            case 1:
                return land.weeksGone;
            case 2:
                return land.allDepths();
            case 3:
                return land.allPaid();
            case 4:
                return land.touchingPairs();
            case 5:
                return past.size;
            case 6:
                return sightings.size;
            case 7:
                return numbers.size;
            case 8:
                return text.size;
            default:
                return NONE;
        }
    }

    public int row(int i) throws NoSuchElementException {
        if (i < 0 || i >= numbers.size) {
            throw new NoSuchElementException("the row has no such number");
        }
        return numbers.list[i];
    }

    /** THE TEXT. */
    private static final class Text {
        final char[] signs = new char[SIGNS_MOST];
        int size = 0;

        boolean append(int v) {
            if (size + 4 > SIGNS_MOST) {
                return false;
            }
            for (int shift = 24; shift >= 0; shift -= 8) {
                signs[size] = (char) (v >>> shift & 255);
                size++;
            }
            return true;
        }

        boolean cut(int n) {
            if (n < 0 || n > size) {
                return false;
            }
            size = n;
            return true;
        }
    }

    /** The ROW. */
    private static final class Numbers {
        final int[] list = new int[NUMBERS_MOST];
        int size = 0;

        void clear() {
            size = 0;
        }

        void add(int v) {
            if (size < NUMBERS_MOST) {
                list[size] = v;
                size++;
            }
        }

        /** Ahead of those that there are: the last one goes, if there is no room. */
        void addAhead(int v) {
            size = Math.min(NUMBERS_MOST, size + 1);
            for (int i = size - 1; i > 0; i--) {
                list[i] = list[i - 1];
            }
            list[0] = v;
        }

        void tell(int v) {
            clear();
            add(v);
        }
    }

    /**
     * Reads counties and nights sign by sign, so that the first sign that can't stand is known, and
     * notes their lines: nothing is done before the whole text is known to be good.
     */
    private static final class Reader {
        private static final int LINE_DUE = 0;
        private static final int ONE_DIGIT = 1;
        private static final int TWO_DIGITS = 2;
        private static final int SPRING_DUE = 3;
        private static final int OTHER_DUE = 4;
        private static final int PAIR_TOLD = 5;
        private static final int STONE_DUE = 6;
        private static final int FROM_DUE = 7;
        private static final int ARROW_DUE = 8;
        private static final int TO_DUE = 9;
        private static final int BUCKET_TOLD = 10;
        private static final int TIMES_DUE = 11;
        private static final int LINE_TOLD = 12;

        /** Of a pair or a bucket the two farms and the digit; of a farm NONE, depth and spring. */
        final int[] one = new int[LINES_MOST];
        final int[] two = new int[LINES_MOST];
        final int[] three = new int[LINES_MOST];
        int lines = 0;

        private int farms = 0;
        private int start = LINE_DUE;
        private int state = LINE_DUE;

        /** Where the fault is, or NONE. */
        int readCounty(Text text, int farmsThere) {
            farms = farmsThere;
            start = LINE_DUE;
            return readUpTo(COUNTY_SIGNS, text);
        }

        int readNight(Text text) {
            // A night may name farms that are not there: it is the carrying that fails.
            farms = FARMS_MOST;
            start = FROM_DUE;
            return readUpTo(NIGHT_SIGNS, text);
        }

        private int readUpTo(int most, Text text) {
            lines = 0;
            state = start;
            if (text.size == 0) {
                return NONE;
            }
            int length = Math.min(most, text.size);
            for (int i = 0; i < length; i++) {
                if (!takes(text.signs[i])) {
                    return i;
                }
            }
            return text.size <= most && mayEnd() ? NONE : length;
        }

        private boolean mayEnd() {
            return state == ONE_DIGIT || state == TWO_DIGITS || state == PAIR_TOLD || state == BUCKET_TOLD
                    || state == LINE_TOLD;
        }

        private boolean takes(char sign) {
            switch (state) {
                case LINE_DUE:
                    return isDigit(sign) ? beginFarm(sign - '0') : beginPair(sign - 'a', 0, OTHER_DUE);
                case ONE_DIGIT:
                    return isDigit(sign) ? takeSecondDigit(sign - '0') : goesOn(sign, '+', SPRING_DUE);
                case TWO_DIGITS:
                    return goesOn(sign, '+', SPRING_DUE);
                case SPRING_DUE:
                case STONE_DUE:
                    return takeLastDigit(sign, '0');
                case OTHER_DUE:
                    return sign - 'a' != one[lines - 1] && takeOther(sign - 'a', PAIR_TOLD);
                case PAIR_TOLD:
                    return goesOn(sign, '/', STONE_DUE);
                case FROM_DUE:
                    return beginPair(sign - 'a', 1, ARROW_DUE);
                case ARROW_DUE:
                    state = TO_DUE;
                    return sign == '>';
                case TO_DUE:
                    return takeOther(sign - 'a', BUCKET_TOLD);
                case BUCKET_TOLD:
                    return goesOn(sign, '*', TIMES_DUE);
                case TIMES_DUE:
                    return takeLastDigit(sign, '1');
                default:
                    return goesOn(sign, ';', start);
            }
        }

        private static boolean isDigit(char sign) {
            return sign >= '0' && sign <= '9';
        }

        private boolean beginFarm(int digit) {
            if (farms == FARMS_MOST) {
                return false;
            }
            farms++;
            return beginLine(NONE, digit, 0, ONE_DIGIT);
        }

        private boolean beginPair(int letter, int third, int next) {
            return letter >= 0 && letter < farms && beginLine(letter, 0, third, next);
        }

        private boolean beginLine(int first, int second, int third, int next) {
            if (lines == LINES_MOST) {
                return false;
            }
            one[lines] = first;
            two[lines] = second;
            three[lines] = third;
            lines++;
            state = next;
            return true;
        }

        private boolean takeSecondDigit(int digit) {
            two[lines - 1] = 10 * two[lines - 1] + digit;
            state = TWO_DIGITS;
            return true;
        }

        private boolean takeOther(int letter, int next) {
            if (letter < 0 || letter >= farms) {
                return false;
            }
            two[lines - 1] = letter;
            state = next;
            return true;
        }

        private boolean takeLastDigit(char sign, char least) {
            if (sign < least || sign > '9') {
                return false;
            }
            three[lines - 1] = sign - '0';
            state = LINE_TOLD;
            return true;
        }

        /** A line that could end here either does or goes on with one sign. */
        private boolean goesOn(char sign, char with, int next) {
            state = sign == ';' ? start : next;
            return sign == ';' || sign == with;
        }
    }

    /** FARMS as they are now, and THE LAW. */
    private static final class Land {
        final int[] depth = new int[FARMS_MOST];
        final int[] spring = new int[FARMS_MOST];
        final int[] paid = new int[FARMS_MOST];
        final int[] rules = new int[LAWS];
        int farms = 0;
        int weeksGone = 0;

        /** Of farms a and b at a * FARMS_MOST + b; NONE: they do not touch. */
        private final int[] stoneOf = new int[FARMS_MOST * FARMS_MOST];

        Land() {
            Arrays.fill(rules, 1);
            Arrays.fill(stoneOf, NONE);
        }

        boolean has(int f) {
            return f >= 0 && f < farms;
        }

        boolean hasTwo(int a, int b) {
            return has(a) && has(b) && a != b;
        }

        boolean hasAll(int bits) {
            return (bits & ~everyone()) == 0;
        }

        int everyone() {
            return (1 << farms) - 1;
        }

        /** The number of the new farm: who calls knows that there is room. */
        int settle(int inches, int springing) {
            if (farms == FARMS_MOST) {
                return NONE;
            }
            depth[farms] = inches;
            spring[farms] = springing;
            farms++;
            return farms - 1;
        }

        int between(int a, int b) {
            return stoneOf[a * FARMS_MOST + b];
        }

        void join(int a, int b, int stone) {
            stoneOf[a * FARMS_MOST + b] = stone;
            stoneOf[b * FARMS_MOST + a] = stone;
        }

        int touching(int f) {
            int bits = 0;
            for (int g = 0; g < farms; g++) {
                bits |= between(f, g) != NONE ? 1 << g : 0;
            }
            return bits;
        }

        int touchingPairs() {
            int ends = 0;
            for (int f = 0; f < farms; f++) {
                ends += Integer.bitCount(touching(f));
            }
            return ends / 2;
        }

        int evenWith(int f) {
            int bits = 0;
            for (int g = 0; g < farms; g++) {
                bits |= between(f, g) != NONE && isNear(depth[f], depth[g]) ? 1 << g : 0;
            }
            return bits;
        }

        private boolean isNear(int d, int e) {
            return Math.abs(d - e) < rules[APART];
        }

        /** Whether a well of such a depth would be EVEN with none of these farms. */
        boolean isFree(int d, int bits) {
            for (int g = 0; g < farms; g++) {
                if ((bits >> g & 1) == 1 && isNear(d, depth[g])) {
                    return false;
                }
            }
            return true;
        }

        boolean canCarry(int from, int to) {
            return hasTwo(from, to) && between(from, to) != NONE && depth[from] >= rules[BUCKET]
                    && depth[to] <= DEPTH_MOST - rules[BUCKET];
        }

        void bring(int from, int to) {
            depth[from] -= rules[BUCKET];
            depth[to] += rules[BUCKET];
        }

        /** Where f would best carry a bucket for itself, or NONE. */
        int bestFor(int f) {
            int best = NONE;
            int fewest = evensAfter(f, NONE);
            for (int to = 0; to < farms; to++) {
                if (canCarry(f, to) && evensAfter(f, to) < fewest) {
                    best = to;
                    fewest = evensAfter(f, to);
                }
            }
            return best;
        }

        /** With how many f is EVEN after a bucket is carried to a farm (NONE: not carried). */
        int evensAfter(int f, int to) {
            if (to == NONE) {
                return Integer.bitCount(evenWith(f));
            }
            bring(f, to);
            int evens = Integer.bitCount(evenWith(f));
            bring(to, f);
            return evens;
        }

        int allDepths() {
            int sum = 0;
            for (int f = 0; f < farms; f++) {
                sum += depth[f];
            }
            return sum;
        }

        int allPaid() {
            int sum = 0;
            for (int f = 0; f < farms; f++) {
                sum += paid[f];
            }
            return sum;
        }
    }

    /** What undo() and again() give back. */
    private static final class Snapshot {
        private final int[] depth = new int[FARMS_MOST];
        private final int[] spring = new int[FARMS_MOST];
        private final int[] paid = new int[FARMS_MOST];
        private final int[] rules = new int[LAWS];
        private int weeksGone = 0;

        /** NONE till something is taken. */
        int farms = NONE;

        void take(Land land) {
            System.arraycopy(land.depth, 0, depth, 0, FARMS_MOST);
            System.arraycopy(land.spring, 0, spring, 0, FARMS_MOST);
            System.arraycopy(land.paid, 0, paid, 0, FARMS_MOST);
            System.arraycopy(land.rules, 0, rules, 0, LAWS);
            weeksGone = land.weeksGone;
            farms = land.farms;
        }

        void giveWeeks(Land land) {
            System.arraycopy(depth, 0, land.depth, 0, FARMS_MOST);
            System.arraycopy(paid, 0, land.paid, 0, FARMS_MOST);
            land.weeksGone = weeksGone;
        }

        void giveSpringsAndLaw(Land land) {
            System.arraycopy(spring, 0, land.spring, 0, FARMS_MOST);
            System.arraycopy(rules, 0, land.rules, 0, LAWS);
        }
    }

    /** What can be undone: a ring with one place more than is kept, for what is noted ahead of a call. */
    private static final class Past {
        private static final int PLACES = UNDO_MOST + 1;

        int size = 0;
        private final Snapshot[] ring = new Snapshot[PLACES];
        private int noted = 0;

        Past() {
            for (int i = 0; i < PLACES; i++) {
                ring[i] = new Snapshot();
            }
        }

        void clear() {
            size = 0;
        }

        void note(Land land) {
            ring[noted].take(land);
        }

        void keepNoted() {
            noted = (noted + 1) % PLACES;
            size = Math.min(UNDO_MOST, size + 1);
        }

        void goBack(Land land) {
            noted = (noted + PLACES - 1) % PLACES;
            size--;
            ring[noted].giveWeeks(land);
        }
    }

    /** A copy of the county on which weeks are tried. */
    private static final class Ahead {
        final int[] depth = new int[FARMS_MOST];
        final int[] spring = new int[FARMS_MOST];
        final int[] paid = new int[FARMS_MOST];
        final int[] first = new int[PAIRS_MOST];
        final int[] second = new int[PAIRS_MOST];
        final int[] stone = new int[PAIRS_MOST];
        int pairs = 0;
        int lost = 0;

        /** The last WEEK left all depths as they were, and so will the next without RAIN. */
        boolean settled = false;

        private final int[] before = new int[FARMS_MOST];
        private final int[] flow = new int[PAIRS_MOST];
        private final int[] gives = new int[FARMS_MOST];
        private int farms = 0;
        private int apart = 1;

        void look(Land land) {
            farms = land.farms;
            apart = land.rules[APART];
            System.arraycopy(land.spring, 0, spring, 0, FARMS_MOST);
            rewind(land);
            pairs = 0;
            for (int a = 0; a < farms; a++) {
                for (int b = a + 1; b < farms; b++) {
                    if (land.between(a, b) != NONE) {
                        first[pairs] = a;
                        second[pairs] = b;
                        stone[pairs] = land.between(a, b);
                        pairs++;
                    }
                }
            }
        }

        /** Comes ahead of any change to springs and stones here, for it unsettles. */
        void rewind(Land land) {
            System.arraycopy(land.depth, 0, depth, 0, FARMS_MOST);
            settled = false;
        }

        int pairOf(int a, int b) {
            int lesser = Math.min(a, b);
            int greater = Math.max(a, b);
            for (int p = 0; p < pairs; p++) {
                if (first[p] == lesser && second[p] == greater) {
                    return p;
                }
            }
            return NONE;
        }

        /** A WEEK goes by, up to its SUNDAY. */
        void pass(int rain, int bits) {
            if (settled && rain == 0) {
                return;
            }
            System.arraycopy(depth, 0, before, 0, FARMS_MOST);
            measureSeep();
            letSeep();
            lost = 0;
            settled = rain == 0;
            for (int f = 0; f < farms; f++) {
                int water = depth[f] + spring[f] + ((bits >> f & 1) == 1 ? rain : 0);
                lost += Math.max(0, water - DEPTH_MOST);
                depth[f] = putToDepth(water);
                settled = settled && depth[f] == before[f];
            }
        }

        private void measureSeep() {
            Arrays.fill(gives, 0);
            for (int p = 0; p < pairs; p++) {
                int inches = stone[p] > 0 ? (depth[first[p]] - depth[second[p]]) / (2 * stone[p]) : 0;
                flow[p] = inches;
                gives[inches > 0 ? first[p] : second[p]] += Math.abs(inches);
            }
        }

        private void letSeep() {
            for (int f = 0; f < farms; f++) {
                // Marked ahead of any seeping, for it is of depths as they were.
                gives[f] = gives[f] > depth[f] ? NONE : gives[f];
            }
            for (int p = 0; p < pairs; p++) {
                if (gives[flow[p] > 0 ? first[p] : second[p]] != NONE) {
                    depth[first[p]] -= flow[p];
                    depth[second[p]] += flow[p];
                }
            }
        }

        boolean isEven(int p) {
            return Math.abs(depth[first[p]] - depth[second[p]]) < apart;
        }

        int firstEven() {
            for (int p = 0; p < pairs; p++) {
                if (isEven(p)) {
                    return p;
                }
            }
            return NONE;
        }

        int evenPairs() {
            int evens = 0;
            for (int p = 0; p < pairs; p++) {
                evens += isEven(p) ? 1 : 0;
            }
            return evens;
        }

        boolean isLawful() {
            return firstEven() == NONE;
        }

        /** After how many weeks it is not lawful first; one more than are looked at, if it is on all. */
        int lasting() {
            for (int w = 1; w <= WEEKS_AHEAD; w++) {
                pass(0, 0);
                if (!isLawful()) {
                    return w;
                }
            }
            return WEEKS_AHEAD + 1;
        }

        boolean allAlike() {
            for (int f = 1; f < farms; f++) {
                if (depth[f] != depth[0]) {
                    return false;
                }
            }
            return true;
        }

        void clearPaid() {
            Arrays.fill(paid, 0);
        }

        void payInto(int[] purses, int fine) {
            for (int p = 0; p < pairs; p++) {
                if (isEven(p)) {
                    purses[first[p]] += fine;
                    purses[second[p]] += fine;
                }
            }
        }

        void markEven(Graph graph) {
            for (int p = 0; p < pairs; p++) {
                if (isEven(p)) {
                    graph.join(first[p], second[p]);
                }
            }
        }

        /** All depths in one number: nine of seven bits each. */
        long pack() {
            long key = 0;
            for (int f = 0; f < farms; f++) {
                key |= (long) depth[f] << DEPTH_BITS * f;
            }
            return key;
        }

        void unpack(long key) {
            for (int f = 0; f < farms; f++) {
                depth[f] = (int) (key >>> DEPTH_BITS * f) & DEPTH_MASK;
            }
            settled = false;
        }
    }

    /**
     * Finds DEPTHS that can come by BUCKETS, one by one, each once. By which way each came is not kept:
     * a bucket can always be carried back, so it came from the first found of those around it.
     */
    private static final class Search {
        final long[] keys = new long[FOUND_MOST];
        int found = 0;

        /** Where keys stand: index and 1, or 0; four of them in one long, for the room counts elements. */
        private final long[] slots = new long[SLOTS / SLOTS_IN_ONE];

        /** Where the key that was looked for last stands or would stand. */
        private int place = 0;

        private final int[] moveFrom = new int[MOVES_MOST];
        private final int[] moveTo = new int[MOVES_MOST];
        private int moves = 0;
        private int bucket = 1;

        private int head = 0;
        private int nextMove = 0;
        private boolean more = false;

        /** The BUCKETS that may be carried, rising as they are told. */
        void prepare(Land land) {
            bucket = land.rules[BUCKET];
            moves = 0;
            for (int from = 0; from < land.farms; from++) {
                for (int to = 0; to < land.farms; to++) {
                    if (land.between(from, to) != NONE) {
                        moveFrom[moves] = from;
                        moveTo[moves] = to;
                        moves++;
                    }
                }
            }
        }

        private void start(long key) {
            Arrays.fill(slots, 0);
            found = 0;
            head = 0;
            nextMove = 0;
            more = false;
            add(key);
        }

        /**
         * The first found with which the county is LAWFUL (farm NONE), or that farm has such a depth;
         * NOT_SO, BEYOND.
         */
        int firstSuch(Ahead ahead, int farm, int depth) {
            start(ahead.pack());
            for (int at = 0; at < FOUND_MOST && (at < found || findOne(FOUND_MOST)); at++) {
                ahead.unpack(keys[at]);
                if (farm == NONE ? ahead.isLawful() : ahead.depth[farm] >= depth) {
                    return at;
                }
            }
            // With all places taken nothing has yet said whether there are more.
            findOne(FOUND_MOST);
            return more ? BEYOND : NOT_SO;
        }

        /** Finds all that come by so many buckets or fewer; false: they are too many. */
        boolean findWithin(long key, int buckets) {
            start(key);
            for (int b = 0; b < buckets && !more; b++) {
                int edge = found;
                boolean another = true;
                for (int i = 0; i <= FOUND_MOST && another; i++) {
                    another = findOne(edge);
                }
            }
            return !more;
        }

        int firstLawfulOnSunday(Ahead ahead) {
            for (int at = 0; at < found; at++) {
                ahead.unpack(keys[at]);
                ahead.pass(0, 0);
                if (ahead.isLawful()) {
                    return at;
                }
            }
            return NONE;
        }

        /** One more from those found ahead of the edge: false if there is none, or no room for it. */
        private boolean findOne(int edge) {
            for (; head < edge && head < found; head++) {
                for (; nextMove < moves; nextMove++) {
                    long key = carried(keys[head], nextMove);
                    if (key != NONE && indexOf(key) == NONE) {
                        more = found == FOUND_MOST;
                        return !more && add(key);
                    }
                }
                nextMove = 0;
            }
            return false;
        }

        private boolean add(long key) {
            if (found >= FOUND_MOST || indexOf(key) != NONE) {
                return false;
            }
            slots[place / SLOTS_IN_ONE] |= found + 1L << place % SLOTS_IN_ONE * INDEX_BITS;
            keys[found] = key;
            found++;
            return true;
        }

        /** The key after a bucket, or NONE if it can't be carried. */
        private long carried(long key, int move) {
            int fromShift = DEPTH_BITS * moveFrom[move];
            int toShift = DEPTH_BITS * moveTo[move];
            int has = (int) (key >>> fromShift) & DEPTH_MASK;
            int other = (int) (key >>> toShift) & DEPTH_MASK;
            if (has < bucket || other > DEPTH_MOST - bucket) {
                return NONE;
            }
            return key - ((long) bucket << fromShift) + ((long) bucket << toShift);
        }

        /** Which of those found a key is, or NONE: there are more slots than keys, so that one is free. */
        private int indexOf(long key) {
            place = (int) (key * SPREAD >>> 64 - SLOT_BITS);
            for (int tries = 0; tries < SLOTS; tries++) {
                long held = slots[place / SLOTS_IN_ONE] >>> place % SLOTS_IN_ONE * INDEX_BITS;
                int index = (int) (held & INDEX_MASK) - 1;
                if (index < 0 || index < found && keys[index] == key) {
                    return index;
                }
                place = place + 1 & SLOTS - 1;
            }
            return NONE;
        }

        int stepsTo(int at) {
            int steps = 0;
            for (int i = at; i > 0 && steps < FOUND_MOST; i = cameFrom(i)) {
                steps++;
            }
            return steps;
        }

        private int cameFrom(int at) {
            int back = moveBack(at);
            return back == NONE ? 0 : indexOf(carried(keys[at], back));
        }

        /** The move from a found one back to where it came from; NONE from the first. */
        private int moveBack(int at) {
            int back = NONE;
            int least = at;
            for (int move = 0; move < moves; move++) {
                long key = carried(keys[at], move);
                int index = key == NONE ? NONE : indexOf(key);
                if (index != NONE && index < least) {
                    least = index;
                    back = move;
                }
            }
            return back;
        }

        /** How many buckets lead there; the first of them, as many as a row holds, are told. */
        int tellWay(int at, Numbers numbers) {
            numbers.clear();
            int steps = 0;
            for (int i = at; i > 0 && steps < FOUND_MOST; i = cameFrom(i)) {
                int back = moveBack(i);
                if (back != NONE) {
                    numbers.addAhead(10 * moveTo[back] + moveFrom[back]);
                }
                steps++;
            }
            return steps;
        }
    }

    /** Pairs of farms alone, without water. */
    private static final class Graph {
        final int[] colour = new int[FARMS_MOST];
        final int[] steps = new int[FARMS_MOST];
        int farms = 0;

        private final int[] joined = new int[FARMS_MOST];

        void clear(int farmsThere) {
            farms = farmsThere;
            Arrays.fill(joined, 0);
        }

        void look(Land land) {
            farms = land.farms;
            for (int f = 0; f < farms; f++) {
                joined[f] = land.touching(f);
            }
        }

        void join(int a, int b) {
            joined[a] |= 1 << b;
            joined[b] |= 1 << a;
        }

        int pairs() {
            int ends = 0;
            for (int f = 0; f < farms; f++) {
                ends += Integer.bitCount(joined[f]);
            }
            return ends / 2;
        }

        /** The fewest colours; the least row of them stands in colour then. */
        int paintAll() {
            for (int most = 0; most < farms; most++) {
                if (paintFrom(this, 0, 0, most)) {
                    return most;
                }
            }
            paintFrom(this, 0, 0, farms);
            return farms;
        }

        /**
         * Colours farm f and those behind it, the least ones first. Of colours that none has yet the
         * least alone is tried: the others would do as well and make a greater row. The depth is f.
         */
        private static boolean paintFrom(Graph graph, int f, int used, int most) {
            if (f >= graph.farms) {
                return true;
            }
            for (int c = 0; c < most && c <= used; c++) {
                graph.colour[f] = c;
                if (graph.isUnlike(f) && paintFrom(graph, f + 1, Math.max(used, c + 1), most)) {
                    return true;
                }
            }
            return false;
        }

        private boolean isUnlike(int f) {
            for (int g = 0; g < f; g++) {
                if ((joined[f] >> g & 1) == 1 && colour[g] == colour[f]) {
                    return false;
                }
            }
            return true;
        }

        /** The most farms that are all joined to one another; of as many the least bits. */
        int largestKnot() {
            int best = 0;
            for (int set = 1; set < 1 << farms; set++) {
                if (Integer.bitCount(set) > Integer.bitCount(best) && isKnot(set)) {
                    best = set;
                }
            }
            return best;
        }

        private boolean isKnot(int set) {
            for (int f = 0; f < farms; f++) {
                if ((set >> f & 1) == 1 && (set & ~joined[f]) != 1 << f) {
                    return false;
                }
            }
            return true;
        }

        /** The fewest farms of which one at least is in each pair; of as few the least bits. */
        int smallestCover() {
            int best = (1 << farms) - 1;
            for (int set = 0; set < 1 << farms; set++) {
                if (Integer.bitCount(set) < Integer.bitCount(best) && isCover(set)) {
                    best = set;
                }
            }
            return best;
        }

        private boolean isCover(int set) {
            for (int f = 0; f < farms; f++) {
                if ((set >> f & 1) == 0 && (joined[f] & ~set) != 0) {
                    return false;
                }
            }
            return true;
        }

        /** How many steps each farm is from that one; NONE: no road leads there. */
        void measureTo(int to) {
            Arrays.fill(steps, NONE);
            steps[to] = 0;
            for (int far = 0; far < farms; far++) {
                for (int f = 0; f < farms; f++) {
                    if (steps[f] == far) {
                        measureAround(f, far + 1);
                    }
                }
            }
        }

        private void measureAround(int f, int far) {
            for (int g = 0; g < farms; g++) {
                if ((joined[f] >> g & 1) == 1 && steps[g] == NONE) {
                    steps[g] = far;
                }
            }
        }

        /** The first neighbour that is so far away. */
        int nearer(int f, int far) {
            for (int g = 0; g < farms; g++) {
                if ((joined[f] >> g & 1) == 1 && steps[g] == far) {
                    return g;
                }
            }
            return f;
        }
    }

    /** What was told as seen. */
    private static final class Sightings {
        int size = 0;
        private final int[] week = new int[TOLD_MOST];
        private final int[] pairs = new int[TOLD_MOST];

        void add(int n, int evens) {
            if (size < TOLD_MOST) {
                week[size] = n;
                pairs[size] = evens;
                size++;
            }
        }

        /** Whether all of it would be so, if weeks went by from there. */
        boolean holdFor(Ahead ahead) {
            int last = 0;
            for (int i = 0; i < size; i++) {
                last = Math.max(last, week[i]);
            }
            for (int w = 1; w <= last; w++) {
                ahead.pass(0, 0);
                for (int i = 0; i < size; i++) {
                    if (week[i] == w && pairs[i] != ahead.evenPairs()) {
                        return false;
                    }
                }
            }
            return true;
        }
    }
}
