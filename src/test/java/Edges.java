import java.util.ArrayList;
import java.util.LinkedHashMap;
import java.util.List;
import java.util.Map;
import java.util.function.IntSupplier;

/** What tests of boundary cases share: each begins with the document's own words, on a new object. */
abstract class Edges {
    static final int BAD = NobodyJoins.BAD, FULL = NobodyJoins.FULL, STATE = NobodyJoins.STATE;
    static final int FINDING = NobodyJoins.FINDING, NONE = NobodyJoins.NONE;
    static final int NOTHING = 1, BEYOND = 2, UNLIKE = 3, NOUGHT = 4, SIZE = 5;
    static final int MIN = Integer.MIN_VALUE, MAX = Integer.MAX_VALUE;
    static final Due due = new Due();

    /** By heading, in the order in which they came: what was said to be tested. */
    static final Map<String, List<String>> SAID = new LinkedHashMap<>();

    NobodyJoins x = new NobodyJoins();
    private String words = "";

    abstract void all();

    void says(int promise, String quote) {
        says("Promise " + promise, quote);
    }

    void terms(String quote) {
        says("Terms", quote);
    }

    void says(String heading, String quote) {
        x = new NobodyJoins();
        words = heading + ", '" + quote + "': ";
        SAID.computeIfAbsent(heading, h -> new ArrayList<>()).add(quote);
    }

    void is(String call, long got, long want) {
        due.is(words + call, got, want);
    }

    /** The same words, but on a club of its own. */
    void club(String text) {
        x = new NobodyJoins();
        Due.write(x, 0, text);
        is("club of " + text, x.club(0) > 0 ? 1 : 0, 1);
    }

    void row(int r, int... values) {
        Due.layRow(x, r, values);
    }

    /** Fees that nobody need have pence for: DEEDS all the same. */
    void deeds(int n) {
        for (int deed = 0; deed < n; deed++) {
            is("fee() is DEED " + deed, x.fee() >= 0 ? 1 : 0, 1);
        }
    }

    void asks(String call, int got, int want, int asked) {
        is(call, got, want);
        is(call + ", asked()", x.asked(), asked);
    }

    void part(String call, int got, long upper, long lower) {
        is(call, got, 1);
        is(call + ", upper()", x.upper(), upper);
        is(call + ", lower()", x.lower(), lower);
    }

    void holds(int r, int... values) {
        for (int i = 0; i < values.length; i++) {
            asks("at(" + r + ", " + i + ")", x.at(r, i), 1, values[i]);
        }
        is("at behind the last of row " + r, x.at(r, values.length), FINDING);
        is("finding() behind the last", x.finding(), BEYOND);
    }

    private long[] seen() {
        return new long[] {x.digest(), x.asked(), x.upper(), x.lower()};
    }

    private long[] found() {
        return new long[] {x.finding(), x.findings(1), x.findings(2), x.findings(3), x.findings(4), x.findings(5)};
    }

    private void same(String what, long[] now, long[] before) {
        for (int i = 0; i < before.length; i++) {
            is(what + " " + i + " behind it", now[i], before[i]);
        }
    }

    /** Refused so, and nothing is changed, not even what was found. */
    void refuses(String call, IntSupplier made, int answer) {
        long[] seen = seen();
        long[] found = found();
        is(call, made.getAsInt(), answer);
        same(call + ": state", seen(), seen);
        same(call + ": findings", found(), found);
    }

    /** Refused by a FINDING, and nothing is changed but what was found. */
    void finds(String call, IntSupplier made, int finding) {
        long[] seen = seen();
        long[] found = found();
        is(call, made.getAsInt(), FINDING);
        same(call + ": state", seen(), seen);
        found[0] = finding;
        found[finding]++;
        same(call + ": findings", found(), found);
    }
}
