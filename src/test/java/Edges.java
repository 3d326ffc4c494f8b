import java.nio.file.Files;
import java.nio.file.Path;
import java.util.ArrayList;
import java.util.List;
import java.util.Map;
import java.util.NoSuchElementException;
import java.util.TreeMap;
import java.util.function.Supplier;
import java.util.function.ToIntFunction;

/**
 * Tests that are each for some words of the document: the words are quoted, are looked up in the document, and
 * all words of the document have to be quoted by some test.
 */
final class Edges {
    /** The number of the document's Terms, beside those of its promises. */
    static final int TERMS = 0;

    private static final Path DOC = Path.of("../shared/DOC.md");
    private static final int PROMISES = 49;

    private final Check c = new Check("EdgesTest");
    private final Map<Integer, List<String>> quoted = new TreeMap<>();
    private String sentence = "";

    /** What follows is for these words of this promise. */
    void says(int promise, String words) {
        sentence = (promise == TERMS ? "Terms" : "promise " + promise) + " \"" + words + "\": ";
        quoted.computeIfAbsent(promise, p -> new ArrayList<>()).add(words);
    }

    void due(String what, long got, long want) {
        c.due(sentence + what, got, want);
    }

    void due(String what, boolean got, boolean want) {
        c.due(sentence + what, got, want);
    }

    void depths(String what, WellsNotEven x, int... want) {
        c.depths(sentence + what, x, want);
    }

    void row(String what, WellsNotEven x, int... want) {
        c.row(sentence + what, x, want);
    }

    /** A new object answers so and nothing of it changes; the ROW is as it was told last. */
    void alone(String what, Supplier<WellsNotEven> made, ToIntFunction<WellsNotEven> call, int want) {
        WellsNotEven x = made.get();
        String before = stateOf(x) + rowOf(x);
        due(what, call.applyAsInt(x), want);
        c.due(sentence + what + ", all else", stateOf(x) + rowOf(x), before);
    }

    /** A new object answers so, tells this ROW, and nothing else of it changes. */
    void asks(String what, Supplier<WellsNotEven> made, ToIntFunction<WellsNotEven> call, int want, int... row) {
        WellsNotEven x = made.get();
        String before = stateOf(x);
        due(what, call.applyAsInt(x), want);
        row(what, x, row);
        c.due(sentence + what + ", all else", stateOf(x), before);
    }

    /** Throws the NoSuchElementException, none below it, and nothing changes. */
    void none(String what, Supplier<WellsNotEven> made, ToIntFunction<WellsNotEven> call) {
        WellsNotEven x = made.get();
        String before = stateOf(x) + rowOf(x);
        String thrown = "nothing";
        try {
            call.applyAsInt(x);
        } catch (RuntimeException e) {
            thrown = e.getClass().getName();
        }
        c.due(sentence + what + " throws", thrown, NoSuchElementException.class.getName());
        c.due(sentence + what + ", all else", stateOf(x) + rowOf(x), before);
    }

    /** Makes such a county, and lets a night that carries nothing tell a ROW, so that it can be seen to stay. */
    static Supplier<WellsNotEven> made(String county) {
        return () -> {
            WellsNotEven x = Check.of(county);
            Check.night(x, "i>i");
            return x;
        };
    }

    static int bit(boolean answer) {
        return answer ? 1 : 0;
    }

    /** All that can be looked at, without the ROW. */
    static String stateOf(WellsNotEven x) {
        StringBuilder all = new StringBuilder();
        for (int what = 0; what <= 8; what++) {
            all.append(what == 7 ? "" : x.count(what) + ",");
        }
        for (int what = 0; what <= 2; what++) {
            int v = x.law(what, 1);
            x.law(what, v);
            all.append(v).append(',');
        }
        int farms = x.count(0);
        for (int a = 0; a < farms; a++) {
            all.append(" | ").append(x.farm(a, 0)).append('+').append(x.farm(a, 1)).append(" paid ").append(x.farm(a, 4));
            for (int b = 0; b < a; b++) {
                all.append(' ').append(x.stone(a, b));
            }
        }
        return all.toString();
    }

    private static String rowOf(WellsNotEven x) {
        return " row " + Check.rowOf(x);
    }

    /** Nine farms of one depth, of which all touch, tight. */
    static WellsNotEven crowd(int depth) {
        return BucketsTest.crowd(depth);
    }

    void finish() throws Exception {
        if (Files.exists(DOC)) {
            holdAgainst(Files.readString(DOC));
        }
        c.finish();
    }

    private void holdAgainst(String doc) {
        sentence = "";
        int terms = doc.indexOf("## Terms");
        lookUp(TERMS, doc.substring(terms + 8, doc.indexOf("Ahead of the calls", terms)));
        for (int p = 1; p <= PROMISES; p++) {
            int start = doc.indexOf("`: ", doc.indexOf("## Promise " + p + ":")) + 3;
            lookUp(p, doc.substring(start, doc.indexOf("\n", start)));
        }
    }

    private void lookUp(int promise, String text) {
        StringBuilder left = new StringBuilder(text.replaceAll("\n\\d\\. ", " ").replaceAll("\\s+", " "));
        String whole = left.toString();
        for (String words : quoted.getOrDefault(promise, List.of())) {
            int at = whole.indexOf(words);
            due("promise " + promise + " has the words \"" + words + "\"", at >= 0, true);
            for (; at >= 0; at = whole.indexOf(words, at + 1)) {
                for (int i = at; i < at + words.length(); i++) {
                    left.setCharAt(i, ' ');
                }
            }
        }
        String untested = left.toString().replace("```text", "").replace("```", "").replaceAll("[\\s.,:;()]+", " ").trim();
        c.due("words of promise " + promise + " without a test", untested, "");
    }
}
