import java.util.Random;

/** Runs of calls by lots (of fixed seeds): NobodyJoins has to answer as PlainClub does, call by call. */
public final class PlainTest {
    private static final int RUNS = 3000;
    private static final int CALLS = 60;
    private static final Due due = new Due();

    private final Random random;
    private final NobodyJoins x = new NobodyJoins();
    private final PlainClub y = new PlainClub();

    private PlainTest(long seed) {
        random = new Random(seed);
    }

    public static void main(String[] args) {
        for (int seed = 0; seed < RUNS; seed++) {
            new PlainTest(seed).run(seed);
        }
        due.end("PlainTest");
    }

    private void run(int seed) {
        if (random.nextInt(10) > 0) {
            newClub(0);
        }
        for (int call = 0; call < CALLS; call++) {
            String name = "run " + seed + ", call " + call + ": ";
            if (call % 20 == 19) {
                newClub(random.nextInt(4));
            }
            callOne(name, random.nextInt(46));
            due.is(name + "asked()", x.asked(), y.asked());
            due.is(name + "digest()", x.digest(), y.digest());
        }
        due.is("run " + seed + ": upper()", x.upper(), y.upper());
        due.is("run " + seed + ": lower()", x.lower(), y.lower());
        due.is("run " + seed + ": finding()", x.finding(), y.finding());
        for (int f = 0; f <= 6; f++) {
            due.is("run " + seed + ": findings(" + f + ")", x.findings(f), y.findings(f));
        }
    }

    private void newClub(int t) {
        String text = clubText();
        x.text(t, text.length());
        y.text(t, text.length());
        for (int i = 0; i < text.length(); i++) {
            due.is("put of " + text, x.put(t, i, text.charAt(i)), y.put(t, i, text.charAt(i)));
        }
        due.is("fault of '" + text + "'", x.fault(t), y.fault(t));
        due.is("club of '" + text + "'", x.club(t), y.club(t));
    }

    /** Mostly a club without a fault, now and then one sign of it wrong. */
    private String clubText() {
        StringBuilder text = new StringBuilder();
        text.append(blanks()).append('r').append(random.nextInt(4));
        int children = 1 + random.nextInt(6);
        for (int i = 0; i < children; i++) {
            text.append(blanks()).append("mpgtfsmm".charAt(random.nextInt(8))).append(random.nextInt(10));
        }
        boolean[] told = new boolean[36];
        int pairs = random.nextInt(13);
        for (int p = 0; p < pairs; p++) {
            int who = random.nextInt(children);
            int whom = random.nextInt(children);
            if (who != whom && !told[6 * who + whom]) {
                told[6 * who + whom] = true;
                text.append(blanks()).append('l').append(who).append(whom);
            }
        }
        text.append(blanks());
        text.setLength(Math.min(text.length(), 60));
        if (random.nextInt(4) == 0) {
            text.setCharAt(random.nextInt(text.length()), "rmpgtfsl 0123456789x".charAt(random.nextInt(20)));
        }
        if (random.nextInt(12) == 0) {
            text.setLength(random.nextInt(text.length() + 1));
        }
        return text.toString();
    }

    private String blanks() {
        return random.nextInt(6) == 0 ? " ".repeat(1 + random.nextInt(2)) : "";
    }

    /** A number from 0 up to one below n, now and then a wrong one. */
    private int upTo(int n) {
        int lot = random.nextInt(40);
        if (lot == 0) return -1;
        if (lot == 1) return n;
        if (lot == 2) return random.nextBoolean() ? Integer.MAX_VALUE : Integer.MIN_VALUE;
        return random.nextInt(n);
    }

    private int child() {
        return upTo(random.nextInt(3) == 0 ? 6 : Math.max(1, x.count(0)));
    }

    /** A row of small numbers, as orders, told() and minutes() want them. */
    private int usefulRow() {
        int r = random.nextInt(6);
        int kind = random.nextInt(4);
        int size = random.nextInt(7);
        x.row(r, size);
        y.row(r, size);
        for (int i = 0; i < size; i++) {
            int v = kind == 0 ? child() : i % 2 == 0 ? (kind == 1 ? upTo(1 << x.count(0)) : child())
                : kind == 1 ? upTo(2) : upTo(9);
            x.lay(r, i, v);
            y.lay(r, i, v);
        }
        return random.nextInt(8) == 0 ? upTo(6) : r;
    }

    private void callOne(String name, int which) {
        if (which < 13) {
            callRowsAndTexts(name, which);
        } else if (which < 24) {
            callDeeds(name, which);
        } else {
            callAsking(name, which);
        }
    }

    private void callRowsAndTexts(String name, int which) {
        int a = upTo(6), b = upTo(6), c = upTo(5), d = upTo(5), n = upTo(4), v = random.nextInt(400) - 200;
        switch (which) {
            case 0: due.is(name + "row", x.row(a, n), y.row(a, n)); break;
            case 1: due.is(name + "lay", x.lay(a, c, v), y.lay(a, c, v)); break;
            case 2: due.is(name + "at", x.at(a, c), y.at(a, c)); break;
            case 3: due.is(name + "tear", x.tear(a), y.tear(a)); break;
            case 4: due.is(name + "copy", x.copy(a, c, b, d, n), y.copy(a, c, b, d, n)); break;
            case 5: due.is(name + "mean", x.mean(a), y.mean(a)); break;
            case 6: due.is(name + "text", x.text(c - 1, n), y.text(c - 1, n)); break;
            case 7: due.is(name + "put", x.put(n, c, v), y.put(n, c, v)); break;
            case 8: due.is(name + "fault", x.fault(n), y.fault(n)); break;
            case 9: due.is(name + "count", x.count(c + d), y.count(c + d)); break;
            case 10: due.is(name + "row", x.row(a, 39 + n), y.row(a, 39 + n)); break;
            case 11: due.is(name + "mark", x.mark(a, b), y.mark(a, b)); break;
            default: due.is(name + "child", x.child(a, b), y.child(a, b)); break;
        }
    }

    private void callDeeds(String name, int which) {
        int i = child(), k = child();
        switch (which) {
            case 13: due.is(name + "rule", x.rule(upTwin(4)), y.rule(twin)); break;
            case 14: case 15: due.is(name + "oust", x.oust(i), y.oust(i)); break;
            case 16: due.is(name + "join", x.join(i), y.join(i)); break;
            case 17: due.is(name + "fee", x.fee(), y.fee()); break;
            case 18: case 19: due.is(name + "grudge", x.grudge(i, k), y.grudge(i, k)); break;
            case 20: due.is(name + "undo", x.undo(upTwin(x.count(3) + 1)), y.undo(twin)); break;
            case 21: due.is(name + "keep", x.keep(upTwin(3)), y.keep(twin)); break;
            case 22: due.is(name + "on", x.on(upTwin(3)), y.on(twin)); break;
            default:
                int n = upTo(21), seed = random.nextInt() >>> random.nextInt(31);
                due.is(name + "lots", x.lots(n, seed), y.lots(n, seed));
                break;
        }
    }

    private int twin = 0;

    /** One number for both calls of a line. */
    private int upTwin(int n) {
        twin = upTo(n);
        return twin;
    }

    private void callAsking(String name, int which) {
        int i = child();
        switch (which) {
            case 24: case 25: due.is(name + "yes", x.yes(i), y.yes(i)); break;
            case 26: due.is(name + "can", x.can(), y.can()); break;
            case 27: case 28: due.is(name + "swing", x.swing(i), y.swing(i)); break;
            case 29: case 30: due.is(name + "rules", x.rules(i), y.rules(i)); break;
            case 31: due.is(name + "longest", x.longest(upTwin(6)), y.longest(twin)); break;
            case 32: due.is(name + "ways", x.ways(i), y.ways(i)); break;
            case 33: due.is(name + "alone", x.alone(), y.alone()); break;
            case 34: due.is(name + "stands", x.stands(), y.stands()); break;
            case 35: due.is(name + "run", x.run(twin = usefulRow()), y.run(twin)); break;
            case 36: due.is(name + "splits", x.splits(), y.splits()); break;
            case 37: due.is(name + "peace", x.peace(), y.peace()); break;
            case 38: due.is(name + "power", x.power(i), y.power(i)); break;
            case 39: case 40: due.is(name + "share", x.share(i), y.share(i)); break;
            case 41: due.is(name + "secrets", x.secrets(), y.secrets()); break;
            case 42: due.is(name + "told", x.told(twin = usefulRow()), y.told(twin)); break;
            case 43: due.is(name + "minutes", x.minutes(twin = usefulRow()), y.minutes(twin)); break;
            default: due.is(name + "odds", x.odds(upTwin(13)), y.odds(twin)); break;
        }
        due.is(name + "upper()", x.upper(), y.upper());
        due.is(name + "lower()", x.lower(), y.lower());
    }
}
