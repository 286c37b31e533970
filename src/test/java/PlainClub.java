import java.math.BigInteger;
import java.util.ArrayList;
import java.util.Arrays;
import java.util.HashSet;
import java.util.List;
import java.util.Set;
import java.util.TreeSet;
import java.util.regex.Matcher;
import java.util.regex.Pattern;

/**
 * The document once more, by counting out: every order, every coming one by one, every set. Nothing is
 * shared with NobodyJoins but the document, so that a fault would have to be made twice to go unseen.
 */
final class PlainClub {
    private static final int BAD = -1, FULL = -2, FINDING = -3, STATE = -4, NONE = -9;
    private static final String LETTERS = "mpgtfs";
    private static final Pattern GRAMMAR =
        Pattern.compile(" *r[0-3] *([mpgtfs][0-9] *){1,6}(l[0-5][0-5] *){0,12}");

    /** All of a club that deeds change; one is kept ahead of each deed. */
    private static final class State {
        int rule = 0;
        int tin = 0;
        int[] pence = new int[0];
        boolean[] in = new boolean[0];
        boolean[][] likes = new boolean[0][0];
        List<State> ahead = new ArrayList<>();

        State twin() {
            State s = new State();
            s.rule = rule;
            s.tin = tin;
            s.pence = pence.clone();
            s.in = in.clone();
            s.likes = new boolean[likes.length][];
            for (int i = 0; i < likes.length; i++) {
                s.likes[i] = likes[i].clone();
            }
            s.ahead = new ArrayList<>(ahead);
            return s;
        }
    }

    private final int[][] rows = new int[6][];
    private final byte[][] texts = new byte[4][];
    private int[] kinds = new int[0];
    private State now = new State();
    private final State[] kept = new State[3];
    private final int[] findingCounts = new int[6];
    private int lastFinding = 0;
    private int told = 0;
    private BigInteger up = BigInteger.ZERO;
    private BigInteger low = BigInteger.ONE;

    private int find(int f) {
        lastFinding = f;
        findingCounts[f]++;
        return FINDING;
    }

    private boolean child(int i) {
        return i >= 0 && i < kinds.length;
    }

    // ---- rows, texts, clubs

    int row(int r, int n) {
        if (r < 0 || r > 5 || n > 40) return BAD;
        if (n < 0) return find(5);
        rows[r] = new int[n];
        return n;
    }

    int lay(int r, int i, int v) {
        int got = at(r, i);
        if (got == 1) rows[r][i] = v;
        return got;
    }

    int at(int r, int i) {
        if (r < 0 || r > 5) return BAD;
        if (rows[r] == null) return find(1);
        if (i < 0 || i >= rows[r].length) return find(2);
        told = rows[r][i];
        return 1;
    }

    int tear(int r) {
        if (r < 0 || r > 5) return BAD;
        if (rows[r] == null) return find(1);
        rows[r] = null;
        return 1;
    }

    int copy(int r, int i, int to, int j, int n) {
        if (r < 0 || r > 5 || to < 0 || to > 5) return BAD;
        if (n < 0) return find(5);
        if (rows[r] == null || rows[to] == null) return find(1);
        if (i < 0 || j < 0 || (long) i + n > rows[r].length || (long) j + n > rows[to].length) return find(2);
        int[] taken = Arrays.copyOfRange(rows[r], i, i + n);
        for (int k = 0; k < n; k++) rows[to][j + k] = taken[k];
        return 1;
    }

    int mean(int r) {
        if (r < 0 || r > 5) return BAD;
        if (rows[r] == null) return find(1);
        if (rows[r].length == 0) return find(4);
        BigInteger sum = BigInteger.ZERO;
        for (int v : rows[r]) sum = sum.add(BigInteger.valueOf(v));
        told = sum.divide(BigInteger.valueOf(rows[r].length)).intValueExact();
        return 1;
    }

    int text(int t, int n) {
        if (t < 0 || t > 3 || n > 60) return BAD;
        if (n < 0) return find(5);
        texts[t] = new byte[n];
        Arrays.fill(texts[t], (byte) 32);
        return n;
    }

    int put(int t, int i, int v) {
        if (t < 0 || t > 3) return BAD;
        if (texts[t] == null) return find(1);
        if (i < 0 || i >= texts[t].length) return find(2);
        int was = texts[t][i];
        texts[t][i] = (byte) v;
        return was + 1000;
    }

    int fault(int t) {
        if (t < 0 || t > 3) return BAD;
        if (texts[t] == null) return find(1);
        return faultOf(signs(texts[t]));
    }

    private static String signs(byte[] bytes) {
        StringBuilder signs = new StringBuilder();
        for (byte b : bytes) signs.append((char) (b & 255));
        return signs.toString();
    }

    /** The first place up to which the text is no beginning of any club. */
    private static int faultOf(String text) {
        for (int end = 1; end <= text.length(); end++) {
            Matcher m = GRAMMAR.matcher(text.substring(0, end));
            if (!m.matches() && !m.hitEnd() || !pairsAreWell(text.substring(0, end))) return end - 1;
        }
        return GRAMMAR.matcher(text).matches() ? NONE : text.length();
    }

    private static boolean pairsAreWell(String beginning) {
        int children = 0;
        Matcher c = Pattern.compile("[mpgtfs][0-9]").matcher(beginning);
        while (c.find()) children++;
        Set<String> pairs = new HashSet<>();
        Matcher l = Pattern.compile("l([0-9]?)([0-9]?)").matcher(beginning);
        while (l.find()) {
            String who = l.group(1);
            String whom = l.group(2);
            if (!who.isEmpty() && Integer.parseInt(who) >= children) return false;
            if (!whom.isEmpty() && (Integer.parseInt(whom) >= children || whom.equals(who))) return false;
            if (!whom.isEmpty() && !pairs.add(who + whom)) return false;
        }
        return true;
    }

    int club(int t) {
        if (t < 0 || t > 3) return BAD;
        if (texts[t] == null) return find(1);
        String text = signs(texts[t]);
        if (faultOf(text) != NONE) return STATE;
        Arrays.fill(kept, null);
        List<String> children = new ArrayList<>();
        Matcher c = Pattern.compile("[mpgtfs][0-9]").matcher(text);
        while (c.find()) children.add(c.group());
        int n = children.size();
        kinds = new int[n];
        now = new State();
        now.rule = text.trim().charAt(1) - '0';
        now.pence = new int[n];
        now.in = new boolean[n];
        now.likes = new boolean[n][n];
        for (int i = 0; i < n; i++) {
            kinds[i] = LETTERS.indexOf(children.get(i).charAt(0));
            now.pence[i] = children.get(i).charAt(1) - '0';
            now.in[i] = true;
        }
        Matcher l = Pattern.compile("l([0-9])([0-9])").matcher(text);
        while (l.find()) now.likes[Integer.parseInt(l.group(1))][Integer.parseInt(l.group(2))] = true;
        return n;
    }

    private int votes(int i) {
        switch (LETTERS.charAt(kinds[i])) {
            case 'p': return 2;
            case 'f': return 3;
            case 't': return now.pence[i] >= 5 ? 2 : 1;
            case 's': return 0;
            default: return 1;
        }
    }

    private int value(int i, int what) {
        int bits = 0;
        switch (what) {
            case 0: return kinds[i];
            case 1: return now.pence[i];
            case 2: return now.in[i] ? 1 : 0;
            case 3: return votes(i);
            case 4:
                for (int k = 0; k < kinds.length; k++) if (now.likes[i][k]) bits += 1 << k;
                return bits;
            default:
                for (int k = 0; k < kinds.length; k++) if (now.likes[k][i]) bits += 1 << k;
                return bits;
        }
    }

    int child(int i, int what) {
        if (!child(i) || what < 0 || what > 5) return BAD;
        told = value(i, what);
        return 1;
    }

    int mark(int i, int kind) {
        if (!child(i) || kind < 1 || kind > 5) return BAD;
        boolean is = kinds[i] == kind || kind == 1 && kinds[i] == 4;
        if (!is) return find(3);
        int number = 0;
        if (kind == 1) return votes(i) - 1;
        if (kind == 3) return now.pence[i] > 5 ? 0 : 5 - now.pence[i];
        for (int k = 0; k < kinds.length; k++) {
            if (k == i || !now.in[k]) continue;
            if (kind == 2 && now.likes[i][k]) number++;
            if (kind == 4 && !now.likes[k][i]) number++;
            if (kind == 5 && now.likes[k][i]) number++;
        }
        return number;
    }

    int rule(int v) {
        if (v < 0 || v > 3) return BAD;
        if (kinds.length == 0 || !now.ahead.isEmpty()) return STATE;
        int was = now.rule;
        now.rule = v;
        return was;
    }

    // ---- votes

    private int[] yesAndNo(boolean[] in, int i) {
        int yes = 0;
        int no = votes(i);
        for (int k = 0; k < kinds.length; k++) {
            if (k == i || !in[k]) continue;
            if (now.likes[k][i]) no += votes(k);
            else yes += votes(k);
        }
        return new int[] {yes, no};
    }

    private boolean by(int rule, boolean[] in, int i) {
        int yes = yesAndNo(in, i)[0];
        int no = yesAndNo(in, i)[1];
        if (rule == 0) return yes > no;
        if (rule == 1) return yes >= 2 * no && yes != 0;
        if (rule == 2) return no == votes(i) && yes != 0;
        boolean against = false;
        boolean none = true;
        for (int k = 0; k < kinds.length; k++) {
            if (k == i || !in[k] || kinds[k] != 5) continue;
            none = false;
            if (!now.likes[k][i]) against = true;
        }
        return yes > no && (against || none);
    }

    private boolean out(int rule, boolean[] in, int i) {
        if (!in[i]) return false;
        for (int k = 0; k < kinds.length; k++) {
            if (k != i && in[k] && kinds[k] == 2 && now.likes[k][i]) return false;
        }
        if (kinds[i] == 4 && !by(2, in, i)) return false;
        return by(rule, in, i);
    }

    private boolean still(boolean[] in) {
        for (int i = 0; i < kinds.length; i++) if (out(now.rule, in, i)) return false;
        return true;
    }

    private boolean may(int i) {
        if (now.in[i]) return false;
        for (int k = 0; k < kinds.length; k++) if (now.in[k] && !now.likes[k][i]) return false;
        return true;
    }

    private static int bits(boolean[] set) {
        int bits = 0;
        for (int i = 0; i < set.length; i++) if (set[i]) bits += 1 << i;
        return bits;
    }

    private boolean[] set(int bits) {
        boolean[] set = new boolean[kinds.length];
        for (int i = 0; i < set.length; i++) set[i] = (bits >> i) % 2 == 1;
        return set;
    }

    private int inNumber() {
        int n = 0;
        for (boolean b : now.in) if (b) n++;
        return n;
    }

    int yes(int i) {
        if (!child(i)) return BAD;
        if (!now.in[i]) return STATE;
        told = yesAndNo(now.in, i)[1];
        return yesAndNo(now.in, i)[0];
    }

    int can() {
        int out = 0;
        int in = 0;
        for (int i = 0; i < kinds.length; i++) {
            if (out(now.rule, now.in, i)) out += 1 << i;
            if (may(i)) in += 1 << i;
        }
        told = in;
        return out;
    }

    int swing(int i) {
        if (!child(i)) return BAD;
        if (!now.in[i]) return STATE;
        boolean is = out(now.rule, now.in, i);
        int swings = 0;
        for (int k = 0; k < kinds.length; k++) {
            if (k == i || !now.in[k]) continue;
            now.likes[k][i] = !now.likes[k][i];
            if (out(now.rule, now.in, i) != is) swings += 1 << k;
            now.likes[k][i] = !now.likes[k][i];
        }
        return swings;
    }

    int rules(int i) {
        if (!child(i)) return BAD;
        if (!now.in[i]) return STATE;
        int bits = 0;
        for (int v = 0; v < 4; v++) if (out(v, now.in, i)) bits += 1 << v;
        return bits;
    }

    // ---- deeds

    private boolean full() {
        return now.ahead.size() >= 40;
    }

    private void deed() {
        State twin = now.twin();
        now.ahead.add(twin);
    }

    int oust(int i) {
        if (!child(i)) return BAD;
        if (!out(now.rule, now.in, i)) return STATE;
        if (full()) return FULL;
        deed();
        now.in[i] = false;
        return inNumber();
    }

    int join(int i) {
        if (!child(i)) return BAD;
        if (!may(i)) return STATE;
        if (full()) return FULL;
        deed();
        now.in[i] = true;
        return inNumber();
    }

    int fee() {
        if (kinds.length == 0) return STATE;
        if (full()) return FULL;
        deed();
        for (int i = 0; i < kinds.length; i++) {
            if (now.in[i] && now.pence[i] > 0) {
                now.pence[i]--;
                now.tin++;
            }
        }
        return now.tin;
    }

    int grudge(int i, int k) {
        if (!child(i) || !child(k) || i == k) return BAD;
        if (full()) return FULL;
        deed();
        now.likes[i][k] = !now.likes[i][k];
        return now.likes[i][k] ? 1 : 0;
    }

    int undo(int n) {
        int deeds = now.ahead.size();
        if (n < 0 || n > deeds) return BAD;
        if (n < deeds) now = now.ahead.get(n).twin();
        return deeds - n;
    }

    int keep(int k) {
        if (k < 0 || k > 2) return BAD;
        if (kinds.length == 0) return STATE;
        kept[k] = now.twin();
        return now.ahead.size();
    }

    int on(int k) {
        if (k < 0 || k > 2) return BAD;
        if (kept[k] == null) return find(1);
        now = kept[k].twin();
        return now.ahead.size();
    }

    int lots(int n, int seed) {
        if (n < 1 || n > 20 || seed < 1 || seed > 2147483646) return BAD;
        if (kinds.length == 0) return STATE;
        if (now.ahead.size() + n > 40) return FULL;
        BigInteger lot = BigInteger.valueOf(seed);
        BigInteger children = BigInteger.valueOf(kinds.length);
        for (int d = 0; d < n; d++) {
            lot = lot.multiply(BigInteger.valueOf(48271)).mod(BigInteger.valueOf(2147483647));
            int i = lot.mod(children).intValue();
            int k = lot.divide(BigInteger.valueOf(16)).mod(children).intValue();
            if (oust(i) < 0 && join(i) < 0 && grudge(i, k) < 0) fee();
        }
        return inNumber();
    }

    // ---- orders

    /** All orders from a set on, each with the set that is left; they come as they are to be gone through. */
    private void allOrders(boolean[] in, List<Integer> order, List<List<Integer>> to, List<Integer> left) {
        to.add(new ArrayList<>(order));
        left.add(bits(in));
        for (int i = 0; i < kinds.length; i++) {
            if (!out(now.rule, in, i)) continue;
            in[i] = false;
            order.add(i);
            allOrders(in, order, to, left);
            order.remove(order.size() - 1);
            in[i] = true;
        }
    }

    int longest(int r) {
        if (r < 0 || r > 5) return BAD;
        if (kinds.length == 0) return STATE;
        List<List<Integer>> all = new ArrayList<>();
        allOrders(now.in.clone(), new ArrayList<>(), all, new ArrayList<>());
        List<Integer> best = all.get(0);
        for (List<Integer> order : all) if (order.size() > best.size()) best = order;
        rows[r] = new int[best.size()];
        for (int i = 0; i < best.size(); i++) rows[r][i] = best.get(i);
        return best.size();
    }

    int ways(int i) {
        if (!child(i)) return BAD;
        List<Integer> left = new ArrayList<>();
        allOrders(now.in.clone(), new ArrayList<>(), new ArrayList<>(), left);
        int all = 0;
        int with = 0;
        for (int bits : left) {
            if (!still(set(bits))) continue;
            all++;
            if (set(bits)[i]) with++;
        }
        told = with;
        tell(BigInteger.valueOf(all), BigInteger.ONE);
        return 1;
    }

    int alone() {
        List<Integer> left = new ArrayList<>();
        allOrders(now.in.clone(), new ArrayList<>(), new ArrayList<>(), left);
        int last = 0;
        for (int bits : left) if (Integer.bitCount(bits) == 1) last |= bits;
        return last;
    }

    int stands() {
        int how = 0;
        int largest = 0;
        for (int bits = (1 << kinds.length) - 1; bits > 0; bits--) {
            if (!still(set(bits))) continue;
            how++;
            if (Integer.bitCount(bits) >= Integer.bitCount(largest)) largest = bits;
        }
        told = largest;
        return how;
    }

    int run(int r) {
        if (r < 0 || r > 5) return BAD;
        if (kinds.length == 0) return STATE;
        if (rows[r] == null) return find(1);
        if (rows[r].length > 6) return find(5);
        for (int i : rows[r]) if (!child(i)) return find(3);
        boolean[] in = now.in.clone();
        int gone = 0;
        while (gone < rows[r].length && out(now.rule, in, rows[r][gone])) in[rows[r][gone++]] = false;
        told = bits(in);
        return gone;
    }

    int splits() {
        Set<Set<Integer>> parted = new HashSet<>();
        TreeSet<Integer> firsts = new TreeSet<>();
        int in = bits(now.in);
        for (int a = 1; a < 64; a++) {
            for (int b = 1; b < 64; b++) {
                if ((a & b) != 0 || (a | b) != in || !still(set(a)) || !still(set(b))) continue;
                parted.add(Set.of(a, b));
                firsts.add(Integer.numberOfTrailingZeros(a) < Integer.numberOfTrailingZeros(b) ? a : b);
            }
        }
        told = firsts.isEmpty() ? NONE : firsts.first();
        return parted.size();
    }

    private boolean stillBehind(int... pairs) {
        for (int p : pairs) now.likes[p / 6][p % 6] ^= true;
        boolean is = still(now.in);
        for (int p : pairs) now.likes[p / 6][p % 6] ^= true;
        return is;
    }

    int peace() {
        if (kinds.length == 0) return STATE;
        if (stillBehind()) {
            told = 0;
            return 0;
        }
        List<Integer> pairs = new ArrayList<>();
        for (int p = 0; p < 36; p++) if (child(p / 6) && child(p % 6) && p / 6 != p % 6) pairs.add(p);
        for (int p : pairs) {
            if (stillBehind(p)) {
                told = p;
                return 1;
            }
        }
        for (int p : pairs) {
            for (int q : pairs) {
                if (p < q && stillBehind(p, q)) {
                    told = 36 * p + q;
                    return 2;
                }
            }
        }
        return NONE;
    }

    // ---- parts, secrets, minutes, chances

    private void tell(BigInteger a, BigInteger b) {
        BigInteger g = a.gcd(b);
        up = a.divide(g);
        low = b.divide(g);
    }

    /** Of all comings those in which i makes the more than half: {these, all}. */
    private int[] comings(List<Integer> come, int i, int all) {
        int before = 0;
        int with = 0;
        for (int k : come) {
            with = before + votes(k);
            if (k == i && come.size() == inNumber()) break;
            before = with;
        }
        if (come.size() == inNumber()) return new int[] {2 * before <= all && 2 * with > all ? 1 : 0, 1};
        int[] sum = new int[2];
        for (int k = 0; k < kinds.length; k++) {
            if (!now.in[k] || come.contains(k)) continue;
            come.add(k);
            int[] one = comings(come, i, all);
            come.remove(come.size() - 1);
            sum[0] += one[0];
            sum[1] += one[1];
        }
        return sum;
    }

    private int votesIn() {
        int all = 0;
        for (int k = 0; k < kinds.length; k++) if (now.in[k]) all += votes(k);
        return all;
    }

    int power(int i) {
        if (!child(i)) return BAD;
        if (!now.in[i] || votesIn() == 0) return STATE;
        int[] part = comings(new ArrayList<>(), i, votesIn());
        tell(BigInteger.valueOf(part[0]), BigInteger.valueOf(part[1]));
        return 1;
    }

    int share(int i) {
        if (!child(i)) return BAD;
        if (!now.in[i]) return STATE;
        int[] gets = new int[kinds.length];
        // Penny by penny round the shed, as children would.
        int next = -1;
        for (int penny = 0; penny < now.tin; penny++) {
            do {
                next = (next + 1) % kinds.length;
            } while (!now.in[next]);
            gets[next]++;
        }
        int friends = 0;
        for (int k = 0; k < kinds.length; k++) if (now.in[k] && now.likes[k][i]) friends += gets[k];
        told = friends;
        return gets[i];
    }

    int secrets() {
        if (inNumber() == 0) return STATE;
        int k = 0;
        while (!tellsApart(k, new int[inNumber()])) k++;
        return k;
    }

    /** Whether by so many secrets, each told to some set, all know different ones. */
    private static boolean tellsApart(int secrets, int[] known) {
        if (secrets == 0) {
            Set<Integer> different = new HashSet<>();
            for (int k : known) different.add(k);
            return different.size() == known.length;
        }
        for (int set = 0; set < 1 << known.length; set++) {
            int[] more = known.clone();
            for (int i = 0; i < known.length; i++) more[i] = 2 * known[i] + (set >> i) % 2;
            if (tellsApart(secrets - 1, more)) return true;
        }
        return false;
    }

    int told(int r) {
        if (r < 0 || r > 5) return BAD;
        if (kinds.length == 0) return STATE;
        if (rows[r] == null) return find(1);
        if (rows[r].length % 2 == 1) return find(5);
        for (int p = 0; p < rows[r].length; p += 2) {
            if (rows[r][p] < 0 || rows[r][p] > (1 << kinds.length) - 1) return find(3);
            if (rows[r][p + 1] != 0 && rows[r][p + 1] != 1) return find(3);
        }
        int who = 0;
        for (int i = 0; i < kinds.length; i++) {
            boolean can = now.in[i];
            for (int p = 0; p < rows[r].length; p += 2) {
                if (set(rows[r][p])[i] != (rows[r][p + 1] == 1)) can = false;
            }
            if (can) who += 1 << i;
        }
        return who;
    }

    int minutes(int r) {
        if (r < 0 || r > 5) return BAD;
        if (kinds.length == 0) return STATE;
        if (rows[r] == null) return find(1);
        if (rows[r].length % 2 == 1) return find(5);
        TreeSet<Integer> named = new TreeSet<>();
        for (int p = 0; p < rows[r].length; p += 2) {
            if (!child(rows[r][p])) return find(3);
            named.add(rows[r][p]);
        }
        BigInteger all = BigInteger.ONE;
        for (int i : named) all = all.multiply(BigInteger.valueOf(likers(rows[r], i, 0, 0)));
        tell(all, BigInteger.ONE);
        return 1;
    }

    /** From child k on: in how many ways the others LIKE i or not, so that every minute is so. */
    private int likers(int[] pairs, int i, int k, int yes) {
        if (k == kinds.length) {
            for (int p = 0; p < pairs.length; p += 2) if (pairs[p] == i && pairs[p + 1] != yes) return 0;
            return 1;
        }
        if (k == i) return likers(pairs, i, k + 1, yes);
        return likers(pairs, i, k + 1, yes) + likers(pairs, i, k + 1, yes + votes(k));
    }

    int odds(int p) {
        if (p < 0 || p > 12) return BAD;
        BigInteger twelve = BigInteger.valueOf(12);
        BigInteger out = BigInteger.ZERO;
        BigInteger all = BigInteger.ONE;
        for (int i = 0; i < kinds.length; i++) {
            for (int k = 0; k < kinds.length; k++) {
                if (!now.in[i] || now.in[k] || !now.likes[i][k]) continue;
                // It is out already, or gets out by this one.
                BigInteger silent = all.subtract(out);
                out = out.multiply(twelve).add(silent.multiply(BigInteger.valueOf(p)));
                all = all.multiply(twelve);
            }
        }
        tell(out, all);
        return 1;
    }

    // ---- what is told

    int asked() {
        return told;
    }

    long upper() {
        return up.longValueExact();
    }

    long lower() {
        return low.longValueExact();
    }

    private static int there(Object[] places) {
        int n = 0;
        for (Object place : places) if (place != null) n++;
        return n;
    }

    int count(int what) {
        int presidents = 0;
        for (int kind : kinds) if (kind == 1 || kind == 4) presidents++;
        int[] all = {kinds.length, bits(now.in), now.tin, now.ahead.size(), votesIn(), presidents,
            there(rows), there(texts), there(kept)};
        return what < 0 || what > 8 ? BAD : all[what];
    }

    int finding() {
        return lastFinding;
    }

    int findings(int f) {
        return f < 1 || f > 5 ? BAD : findingCounts[f];
    }

    long digest() {
        List<Integer> all = new ArrayList<>();
        for (int what = 0; what < 9; what++) all.add(count(what));
        all.add(now.rule);
        for (int i = 0; i < kinds.length; i++) for (int what = 0; what < 6; what++) all.add(value(i, what));
        for (State k : kept) all.add(k == null ? -1 : k.ahead.size());
        for (int[] row : rows) {
            all.add(row == null ? -1 : row.length);
            if (row != null) for (int v : row) all.add(v);
        }
        for (byte[] text : texts) {
            all.add(text == null ? -1 : text.length);
            if (text != null) for (byte v : text) all.add((int) v);
        }
        long h = 17;
        for (int v : all) h = 31 * h + v;
        return h;
    }
}
