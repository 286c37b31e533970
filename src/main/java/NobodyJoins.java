/**
 * A club of up to six children in a shed: who may be put out by which votes, in which orders,
 * what is done and undone, and what can be told of secrets, minutes and chances.
 *
 * Sets of children are ints of bits throughout: child i is the bit 1 << i.
 */
public final class NobodyJoins {
    public static final int BAD = -1, FULL = -2, FINDING = -3, STATE = -4, SPENT = -6, NONE = -9;

    private static final int NOTHING = 1, BEYOND = 2, UNLIKE = 3, NOUGHT = 4, SIZE = 5;
    private static final int WELL = 0;

    private static final int ROW_COUNT = 6, ROW_PLACES = 40;
    private static final int TEXT_COUNT = 4, TEXT_BYTES = 60;
    private static final int KEPT_COUNT = 3;
    private static final int MISSING = -1;

    private static final int MOST_CHILDREN = 6, MOST_PAIRS = 12, MOST_DEEDS = 40;
    private static final int SETS = 1 << MOST_CHILDREN;
    private static final int PAIRS = MOST_CHILDREN * MOST_CHILDREN;

    private static final int PRESIDENT = 1, GUARD = 2, TREASURER = 3, FOUNDER = 4, SISTER = 5;
    private static final int KINDS = 6;
    private static final char[] KIND_LETTERS = {'m', 'p', 'g', 't', 'f', 's'};
    private static final int[] KIND_VOTES = {1, 2, 1, 1, 3, 0};
    private static final int RICH = 5;

    private static final int RULES = 4;
    private static final int TWICE_NO = 1, ALL_OTHERS = 2, WITH_SISTERS = 3;

    private static final int CHILD_VALUES = 6, COUNTS = 9;
    private static final int TWELFTHS = 12;
    private static final int MOST_LOTS = 20;
    private static final long LOT_FACTOR = 48271, LOT_MODULUS = 2147483647;
    private static final int[] FACTORIALS = {1, 1, 2, 6, 24, 120, 720};

    private final Row[] rows = new Row[ROW_COUNT];
    private final Text[] texts = new Text[TEXT_COUNT];
    private final Club club = new Club();
    private final Club draft = new Club();
    private final Club[] kept = new Club[KEPT_COUNT];
    private final Reader reader = new Reader();
    private final Orders orders = new Orders();
    private final int[] findingCounts = new int[SIZE + 1];
    private int latestFinding = 0;
    private int answer = 0;
    private long upperNumber = 0;
    private long lowerNumber = 1;

    public NobodyJoins() {
        for (int r = 0; r < ROW_COUNT; r++) {
            rows[r] = new Row();
        }
        for (int t = 0; t < TEXT_COUNT; t++) {
            texts[t] = new Text();
        }
        for (int k = 0; k < KEPT_COUNT; k++) {
            kept[k] = new Club();
        }
    }

    // ---- 1 rows, texts, clubs

    public int row(int r, int n) {
        if (!isRow(r) || n > ROW_PLACES) {
            return BAD;
        }
        if (n < 0) {
            return found(SIZE);
        }
        rows[r].renew(n);
        return n;
    }

    public int lay(int r, int i, int v) {
        int refusal = refusalOfPlace(r, i);
        if (refusal != WELL) {
            return refusal;
        }
        answer = rows[r].places[i];
        rows[r].places[i] = v;
        return 1;
    }

    public int at(int r, int i) {
        int refusal = refusalOfPlace(r, i);
        if (refusal != WELL) {
            return refusal;
        }
        answer = rows[r].places[i];
        return 1;
    }

    public int tear(int r) {
        if (!isRow(r)) {
            return BAD;
        }
        if (rows[r].isMissing()) {
            return found(NOTHING);
        }
        rows[r].size = MISSING;
        return 1;
    }

    public int copy(int r, int i, int to, int j, int n) {
        if (!isRow(r) || !isRow(to)) {
            return BAD;
        }
        if (n < 0) {
            return found(SIZE);
        }
        if (rows[r].isMissing() || rows[to].isMissing()) {
            return found(NOTHING);
        }
        if (!rows[r].hasPlaces(i, n) || !rows[to].hasPlaces(j, n)) {
            return found(BEYOND);
        }
        System.arraycopy(rows[r].places, i, rows[to].places, j, n);
        return 1;
    }

    public int mean(int r) {
        if (!isRow(r)) {
            return BAD;
        }
        Row row = rows[r];
        if (row.isMissing()) {
            return found(NOTHING);
        }
        if (row.size == 0) {
            return found(NOUGHT);
        }
        answer = (int) (row.sum() / row.size);
        return 1;
    }

    public int text(int t, int n) {
        if (!isText(t) || n > TEXT_BYTES) {
            return BAD;
        }
        if (n < 0) {
            return found(SIZE);
        }
        texts[t].renew(n);
        return n;
    }

    public int put(int t, int i, int v) {
        if (!isText(t)) {
            return BAD;
        }
        Text text = texts[t];
        if (text.isMissing()) {
            return found(NOTHING);
        }
        if (!text.hasPlace(i)) {
            return found(BEYOND);
        }
        int before = text.bytes[i];
        text.bytes[i] = (byte) v;
        return before + 1000;
    }

    public int fault(int t) {
        if (!isText(t)) {
            return BAD;
        }
        if (texts[t].isMissing()) {
            return found(NOTHING);
        }
        return reader.readClub(texts[t], draft);
    }

    public int club(int t) {
        if (!isText(t)) {
            return BAD;
        }
        if (texts[t].isMissing()) {
            return found(NOTHING);
        }
        if (reader.readClub(texts[t], draft) != NONE) {
            return STATE;
        }
        club.become(draft);
        for (int k = 0; k < KEPT_COUNT; k++) {
            kept[k].clear();
        }
        return club.children;
    }

    public int child(int i, int what) {
        if (!isChild(i) || what < 0 || what >= CHILD_VALUES) {
            return BAD;
        }
        answer = club.valueOf(i, what);
        return 1;
    }

    public int mark(int i, int kind) {
        if (!isChild(i) || kind < PRESIDENT || kind > SISTER) {
            return BAD;
        }
        if (!club.isOfKind(i, kind)) {
            return found(UNLIKE);
        }
        return club.markOf(i, kind);
    }

    public int rule(int v) {
        if (v < 0 || v >= RULES) {
            return BAD;
        }
        if (club.children == 0 || club.deedCount > 0) {
            return STATE;
        }
        int before = club.rule;
        club.rule = v;
        return before;
    }

    // ---- 2 deeds

    public int oust(int i) {
        if (!isChild(i)) {
            return BAD;
        }
        if ((club.putOutOf(club.in) & 1 << i) == 0) {
            return STATE;
        }
        if (club.deedCount >= MOST_DEEDS) {
            return FULL;
        }
        club.putOut(i);
        return Integer.bitCount(club.in);
    }

    public int join(int i) {
        if (!isChild(i)) {
            return BAD;
        }
        if (!club.mayJoin(i)) {
            return STATE;
        }
        if (club.deedCount >= MOST_DEEDS) {
            return FULL;
        }
        club.letIn(i);
        return Integer.bitCount(club.in);
    }

    public int fee() {
        if (club.children == 0) {
            return STATE;
        }
        if (club.deedCount >= MOST_DEEDS) {
            return FULL;
        }
        club.payFee();
        return club.tin;
    }

    public int grudge(int i, int k) {
        if (!isChild(i) || !isChild(k) || i == k) {
            return BAD;
        }
        if (club.deedCount >= MOST_DEEDS) {
            return FULL;
        }
        club.bearGrudge(i, k);
        return club.likedBy[k] >> i & 1;
    }

    public int undo(int n) {
        if (n < 0 || n > club.deedCount) {
            return BAD;
        }
        int undone = club.deedCount - n;
        for (int deed = 0; deed < undone; deed++) {
            club.undoLast();
        }
        return undone;
    }

    public int keep(int k) {
        if (!isKeptPlace(k)) {
            return BAD;
        }
        if (club.children == 0) {
            return STATE;
        }
        kept[k].become(club);
        return club.deedCount;
    }

    public int on(int k) {
        if (!isKeptPlace(k)) {
            return BAD;
        }
        if (kept[k].children == 0) {
            return found(NOTHING);
        }
        club.become(kept[k]);
        return club.deedCount;
    }

    // ---- 3 votes

    public int yes(int i) {
        int refusal = refusalOfOneIn(i);
        if (refusal != WELL) {
            return refusal;
        }
        int against = club.votesAgainst(i, club.in, club.likedBy[i]);
        answer = club.votesOfSet(club.in) - against;
        return against;
    }

    public int can() {
        int joining = 0;
        for (int i = 0; i < club.children; i++) {
            if (club.mayJoin(i)) {
                joining |= 1 << i;
            }
        }
        answer = joining;
        return club.putOutOf(club.in);
    }

    public int swing(int i) {
        int refusal = refusalOfOneIn(i);
        if (refusal != WELL) {
            return refusal;
        }
        boolean out = club.isPutOut(i, club.in, club.likedBy[i], club.rule);
        int deciding = 0;
        for (int k = 0; k < club.children; k++) {
            int swayed = club.likedBy[i] ^ 1 << k;
            if (k != i && club.isIn(k) && club.isPutOut(i, club.in, swayed, club.rule) != out) {
                deciding |= 1 << k;
            }
        }
        return deciding;
    }

    public int rules(int i) {
        int refusal = refusalOfOneIn(i);
        if (refusal != WELL) {
            return refusal;
        }
        int fitting = 0;
        for (int v = 0; v < RULES; v++) {
            if (club.isPutOut(i, club.in, club.likedBy[i], v)) {
                fitting |= 1 << v;
            }
        }
        return fitting;
    }

    // ---- 4 orders (aside)

    public int longest(int r) {
        if (!isRow(r)) {
            return BAD;
        }
        if (club.children == 0) {
            return STATE;
        }
        return orders.layLongest(club, rows[r]);
    }

    public int ways(int i) {
        if (!isChild(i)) {
            return BAD;
        }
        orders.countPaths(club);
        answer = orders.endsWith(club, 1 << i);
        tellNumber(orders.endsWith(club, 0));
        return 1;
    }

    public int alone() {
        return orders.lastOnes(club);
    }

    public int stands() {
        int still = 0;
        int largest = 0;
        for (int set = 1; set < 1 << club.children; set++) {
            if (club.standsStill(set)) {
                still++;
                if (Integer.bitCount(set) > Integer.bitCount(largest)) {
                    largest = set;
                }
            }
        }
        answer = largest;
        return still;
    }

    public int run(int r) {
        int refusal = refusalOfClubAndRow(r);
        if (refusal != WELL) {
            return refusal;
        }
        Row row = rows[r];
        if (row.size > MOST_CHILDREN) {
            return found(SIZE);
        }
        if (!namesChildren(row, 1)) {
            return found(UNLIKE);
        }
        int left = Orders.leftBy(club, row);
        answer = left;
        return Integer.bitCount(club.in) - Integer.bitCount(left);
    }

    public int splits() {
        int least = club.in & -club.in;
        int parted = 0;
        int first = NONE;
        for (int set = 1; set < club.in; set++) {
            boolean part = (set & ~club.in) == 0 && (set & least) != 0;
            if (part && club.standsStill(set) && club.standsStill(club.in & ~set)) {
                parted++;
                if (first == NONE) {
                    first = set;
                }
            }
        }
        answer = first;
        return parted;
    }

    public int peace() {
        if (club.children == 0) {
            return STATE;
        }
        int grudges = 0;
        int first = club.standsStill(club.in) ? 0 : NONE;
        if (first == NONE) {
            grudges = 1;
            first = Peace.firstGrudge(club, 0);
        }
        if (first == NONE) {
            grudges = 2;
            first = Peace.firstTwoGrudges(club);
        }
        if (first == NONE) {
            return NONE;
        }
        answer = first;
        return grudges;
    }

    // ---- 5 what a vote is worth, the tin

    public int power(int i) {
        int refusal = refusalOfOneIn(i);
        if (refusal != WELL) {
            return refusal;
        }
        if (club.votesOfSet(club.in) == 0) {
            return STATE;
        }
        tellPart(Sums.decidedBy(club, i), FACTORIALS[Integer.bitCount(club.in)]);
        return 1;
    }

    public int share(int i) {
        int refusal = refusalOfOneIn(i);
        if (refusal != WELL) {
            return refusal;
        }
        int friends = 0;
        for (int k = 0; k < club.children; k++) {
            if (club.isIn(k) && (club.likedBy[i] & 1 << k) != 0) {
                friends += club.shareOf(k);
            }
        }
        answer = friends;
        return club.shareOf(i);
    }

    // ---- 6 secrets, minutes

    public int secrets() {
        if (club.in == 0) {
            return STATE;
        }
        int suspects = Integer.bitCount(club.in);
        int needed = 0;
        // Each secret halves at best: k of them tell 2 to the k apart.
        while (needed < MOST_CHILDREN && 1 << needed < suspects) {
            needed++;
        }
        return needed;
    }

    public int told(int r) {
        int refusal = refusalOfClubAndRow(r);
        if (refusal != WELL) {
            return refusal;
        }
        Row row = rows[r];
        if (row.size % 2 != 0) {
            return found(SIZE);
        }
        if (!Sums.namesSets(row, club.children)) {
            return found(UNLIKE);
        }
        return Sums.suspects(row, club.in);
    }

    public int minutes(int r) {
        int refusal = refusalOfClubAndRow(r);
        if (refusal != WELL) {
            return refusal;
        }
        Row row = rows[r];
        if (row.size % 2 != 0) {
            return found(SIZE);
        }
        if (!namesChildren(row, 2)) {
            return found(UNLIKE);
        }
        tellNumber(Sums.likingsOf(row, club));
        return 1;
    }

    // ---- 7 chances, lots

    public int odds(int p) {
        if (p < 0 || p > TWELFTHS) {
            return BAD;
        }
        long all = 1;
        long silent = 1;
        for (int i = 0; i < club.children; i++) {
            int hearers = club.isIn(i) ? Integer.bitCount(club.likingsOf(i) & ~club.in) : 0;
            for (int k = 0; k < hearers; k++) {
                all *= TWELFTHS;
                silent *= TWELFTHS - p;
            }
        }
        tellPart(all - silent, all);
        return 1;
    }

    public int lots(int n, int seed) {
        if (n < 1 || n > MOST_LOTS || seed < 1 || seed >= LOT_MODULUS) {
            return BAD;
        }
        if (club.children == 0) {
            return STATE;
        }
        if (club.deedCount + n > MOST_DEEDS) {
            return FULL;
        }
        long lot = seed;
        for (int deed = 0; deed < n; deed++) {
            lot = LOT_FACTOR * lot % LOT_MODULUS;
            club.doByLot((int) lot);
        }
        return Integer.bitCount(club.in);
    }

    // ---- 8 what is told

    public int asked() {
        return answer;
    }

    public long upper() {
        return upperNumber;
    }

    public long lower() {
        return lowerNumber;
    }

    public int count(int what) {
        switch (what) {
            case 0:
                return club.children;
            case 1:
                return club.in;
            case 2:
                return club.tin;
            case 3:
                return club.deedCount;
            case 4:
                return club.votesOfSet(club.in);
            case 5:
                return Integer.bitCount(club.allOfKind(PRESIDENT));
            case 6:
                return rowsThere();
            case 7:
                return textsThere();
            case 8:
                return clubsKept();
            default:
                return BAD;
        }
    }

    public int finding() {
        return latestFinding;
    }

    public int findings(int f) {
        if (f < NOTHING || f > SIZE) {
            return BAD;
        }
        return findingCounts[f];
    }

    public long digest() {
        long h = 17;
        for (int what = 0; what < COUNTS; what++) {
            h = 31 * h + count(what);
        }
        h = 31 * h + club.rule;
        for (int i = 0; i < club.children; i++) {
            for (int what = 0; what < CHILD_VALUES; what++) {
                h = 31 * h + club.valueOf(i, what);
            }
        }
        for (int k = 0; k < KEPT_COUNT; k++) {
            h = 31 * h + (kept[k].children == 0 ? MISSING : kept[k].deedCount);
        }
        for (int r = 0; r < ROW_COUNT; r++) {
            h = rows[r].digestedInto(h);
        }
        for (int t = 0; t < TEXT_COUNT; t++) {
            h = texts[t].digestedInto(h);
        }
        return h;
    }

    // ---- what the calls share

    private static boolean isRow(int r) {
        return r >= 0 && r < ROW_COUNT;
    }

    private static boolean isText(int t) {
        return t >= 0 && t < TEXT_COUNT;
    }

    private static boolean isKeptPlace(int k) {
        return k >= 0 && k < KEPT_COUNT;
    }

    private boolean isChild(int i) {
        return i >= 0 && i < club.children;
    }

    private boolean namesChildren(Row row, int step) {
        for (int place = 0; place < row.size; place += step) {
            if (!isChild(row.places[place])) {
                return false;
            }
        }
        return true;
    }

    // Each of these is WELL, or how a call is refused.

    private int refusalOfPlace(int r, int i) {
        if (!isRow(r)) {
            return BAD;
        }
        if (rows[r].isMissing()) {
            return found(NOTHING);
        }
        return rows[r].hasPlace(i) ? WELL : found(BEYOND);
    }

    private int refusalOfClubAndRow(int r) {
        if (!isRow(r)) {
            return BAD;
        }
        if (club.children == 0) {
            return STATE;
        }
        return rows[r].isMissing() ? found(NOTHING) : WELL;
    }

    private int refusalOfOneIn(int i) {
        if (!isChild(i)) {
            return BAD;
        }
        return club.isIn(i) ? WELL : STATE;
    }

    private int found(int which) {
        latestFinding = which;
        findingCounts[which]++;
        return FINDING;
    }

    private void tellNumber(long number) {
        upperNumber = number;
        lowerNumber = 1;
    }

    private void tellPart(long part, long whole) {
        long divisor = Sums.commonDivisor(part, whole);
        if (divisor > 0) {
            upperNumber = part / divisor;
            lowerNumber = whole / divisor;
        }
    }

    private int rowsThere() {
        int there = 0;
        for (int r = 0; r < ROW_COUNT; r++) {
            there += rows[r].isMissing() ? 0 : 1;
        }
        return there;
    }

    private int textsThere() {
        int there = 0;
        for (int t = 0; t < TEXT_COUNT; t++) {
            there += texts[t].isMissing() ? 0 : 1;
        }
        return there;
    }

    private int clubsKept() {
        int there = 0;
        for (int k = 0; k < KEPT_COUNT; k++) {
            there += kept[k].children == 0 ? 0 : 1;
        }
        return there;
    }

    /** A row of ints; its places are made once, for as many as it can ever have. */
    private static final class Row {
        final int[] places = new int[ROW_PLACES];
        int size = MISSING;

        void renew(int n) {
            size = n;
            for (int i = 0; i < n; i++) {
                places[i] = 0;
            }
        }

        boolean isMissing() {
            return size < 0;
        }

        boolean hasPlace(int i) {
            return i >= 0 && i < size;
        }

        boolean hasPlaces(int i, int n) {
            // Not i + n against size: that sum can wrap around.
            return i >= 0 && n <= size && i <= size - n;
        }

        long sum() {
            long sum = 0;
            for (int i = 0; i < size; i++) {
                sum += places[i];
            }
            return sum;
        }

        long digestedInto(long h) {
            long to = 31 * h + size;
            for (int i = 0; i < size; i++) {
                to = 31 * to + places[i];
            }
            return to;
        }
    }

    /** A row of bytes, made once like a Row. */
    private static final class Text {
        final byte[] bytes = new byte[TEXT_BYTES];
        int size = MISSING;

        void renew(int n) {
            size = n;
            for (int i = 0; i < n; i++) {
                bytes[i] = ' ';
            }
        }

        boolean isMissing() {
            return size < 0;
        }

        boolean hasPlace(int i) {
            return i >= 0 && i < size;
        }

        /** The byte at a place; where there is none, one that fits nowhere. */
        int signAt(int i) {
            return hasPlace(i) ? bytes[i] : 0;
        }

        int figureAt(int i, int below) {
            int figure = signAt(i) - '0';
            return figure >= 0 && figure < below ? figure : NONE;
        }

        long digestedInto(long h) {
            long to = 31 * h + size;
            for (int i = 0; i < size; i++) {
                to = 31 * to + bytes[i];
            }
            return to;
        }
    }

    /** Reads a text as a club; where it can't go on, its place is the fault. */
    private static final class Reader {
        private int place = 0;
        private int pairs = 0;

        /** The fault's place, or NONE; what stands in the club behind a fault is of no use. */
        int readClub(Text text, Club into) {
            place = 0;
            pairs = 0;
            into.clear();
            skipBlanks(text);
            if (!readRule(text, into)) {
                return place;
            }
            for (int item = 0; item <= TEXT_BYTES; item++) {
                skipBlanks(text);
                if (place >= text.size) {
                    return into.children > 0 ? NONE : place;
                }
                boolean well = text.signAt(place) == 'l' ? readPair(text, into) : readChild(text, into);
                if (!well) {
                    return place;
                }
            }
            return place;
        }

        private boolean readRule(Text text, Club into) {
            if (text.signAt(place) != 'r') {
                return false;
            }
            place++;
            int rule = text.figureAt(place, RULES);
            if (rule < 0) {
                return false;
            }
            place++;
            into.rule = rule;
            return true;
        }

        private boolean readChild(Text text, Club into) {
            int kind = kindOf(text.signAt(place));
            if (kind < 0 || pairs > 0 || into.children >= MOST_CHILDREN) {
                return false;
            }
            place++;
            int pence = text.figureAt(place, 10);
            if (pence < 0) {
                return false;
            }
            place++;
            into.addChild(kind, pence);
            return true;
        }

        private boolean readPair(Text text, Club into) {
            if (into.children == 0 || pairs >= MOST_PAIRS) {
                return false;
            }
            place++;
            int who = text.figureAt(place, into.children);
            if (who < 0) {
                return false;
            }
            place++;
            int whom = text.figureAt(place, into.children);
            if (whom < 0 || whom == who || (into.likedBy[whom] & 1 << who) != 0) {
                return false;
            }
            place++;
            pairs++;
            into.toggleLiking(who, whom);
            return true;
        }

        private void skipBlanks(Text text) {
            while (place < text.size && text.signAt(place) == ' ') {
                place++;
            }
        }

        private static int kindOf(int sign) {
            for (int kind = 0; kind < KINDS; kind++) {
                if (sign == KIND_LETTERS[kind]) {
                    return kind;
                }
            }
            return NONE;
        }
    }

    /** The children, what they are and have, who is in, and what was done; without children it is none. */
    private static final class Club {
        private static final int OUT = 0, IN = 1, FEE = 2, GRUDGE = 3;
        private static final int DEED = 64;

        final int[] kinds = new int[MOST_CHILDREN];
        final int[] pence = new int[MOST_CHILDREN];
        final int[] likedBy = new int[MOST_CHILDREN];
        final int[] deeds = new int[MOST_DEEDS];
        int children = 0;
        int rule = 0;
        int in = 0;
        int tin = 0;
        int deedCount = 0;

        void clear() {
            children = 0;
            rule = 0;
            in = 0;
            tin = 0;
            deedCount = 0;
        }

        void become(Club other) {
            System.arraycopy(other.kinds, 0, kinds, 0, MOST_CHILDREN);
            System.arraycopy(other.pence, 0, pence, 0, MOST_CHILDREN);
            System.arraycopy(other.likedBy, 0, likedBy, 0, MOST_CHILDREN);
            System.arraycopy(other.deeds, 0, deeds, 0, MOST_DEEDS);
            children = other.children;
            rule = other.rule;
            in = other.in;
            tin = other.tin;
            deedCount = other.deedCount;
        }

        void addChild(int kind, int itsPence) {
            if (children < MOST_CHILDREN) {
                kinds[children] = kind;
                pence[children] = itsPence;
                likedBy[children] = 0;
                in |= 1 << children;
                children++;
            }
        }

        // -- what the children are

        boolean isIn(int i) {
            return (in & 1 << i) != 0;
        }

        boolean isOfKind(int i, int kind) {
            return kinds[i] == kind || kind == PRESIDENT && kinds[i] == FOUNDER;
        }

        int allOfKind(int kind) {
            int set = 0;
            for (int i = 0; i < children; i++) {
                if (isOfKind(i, kind)) {
                    set |= 1 << i;
                }
            }
            return set;
        }

        int likingsOf(int i) {
            int set = 0;
            for (int k = 0; k < children; k++) {
                set |= (likedBy[k] >> i & 1) << k;
            }
            return set;
        }

        int votesOf(int i) {
            int more = kinds[i] == TREASURER && pence[i] >= RICH ? 1 : 0;
            return KIND_VOTES[kinds[i]] + more;
        }

        int votesOfSet(int set) {
            int votes = 0;
            for (int i = 0; i < children; i++) {
                if ((set & 1 << i) != 0) {
                    votes += votesOf(i);
                }
            }
            return votes;
        }

        int valueOf(int i, int what) {
            switch (what) {
                case 0:
                    return kinds[i];
                case 1:
                    return pence[i];
                case 2:
                    return in >> i & 1;
                case 3:
                    return votesOf(i);
                case 4:
                    return likingsOf(i);
                default:
                    return likedBy[i];
            }
        }

        int markOf(int i, int kind) {
            switch (kind) {
                case PRESIDENT:
                    return votesOf(i) - KIND_VOTES[0];
                case GUARD:
                    return Integer.bitCount(in & likingsOf(i));
                case TREASURER:
                    return Math.max(0, RICH - pence[i]);
                case FOUNDER:
                    return Integer.bitCount(in & ~likedBy[i] & ~(1 << i));
                default:
                    return Integer.bitCount(in & likedBy[i]);
            }
        }

        int shareOf(int i) {
            int among = Integer.bitCount(in);
            if (among == 0) {
                return 0;
            }
            int ahead = Integer.bitCount(in & (1 << i) - 1);
            return tin / among + (ahead < tin % among ? 1 : 0);
        }

        // -- votes: a set is in, and likers LIKE the child, so that what is not so can be asked, too

        int votesAgainst(int i, int set, int likers) {
            return votesOfSet(set & ~likers & ~(1 << i));
        }

        boolean isPutOut(int i, int set, int likers, int byRule) {
            int others = set & ~(1 << i);
            int yes = votesOfSet(others & ~likers);
            int no = votesOfSet(set) - yes;
            if (!isCarried(i, yes, no, byRule)) {
                return false;
            }
            if (kinds[i] == FOUNDER && !isCarried(i, yes, no, ALL_OTHERS)) {
                return false;
            }
            if (byRule == WITH_SISTERS && !doSistersAgree(others, likers)) {
                return false;
            }
            return (others & likers & allOfKind(GUARD)) == 0;
        }

        /** By the numbers of votes alone. */
        private boolean isCarried(int i, int yes, int no, int byRule) {
            switch (byRule) {
                case TWICE_NO:
                    return yes >= 2 * no && yes > 0;
                case ALL_OTHERS:
                    return no == votesOf(i) && yes > 0;
                default:
                    return yes > no;
            }
        }

        private boolean doSistersAgree(int others, int likers) {
            int sisters = others & allOfKind(SISTER);
            return sisters == 0 || (sisters & ~likers) != 0;
        }

        /** Those of a set who are put out, if all of it are in and nobody else. */
        int putOutOf(int set) {
            int out = 0;
            for (int i = 0; i < children; i++) {
                if ((set & 1 << i) != 0 && isPutOut(i, set, likedBy[i], rule)) {
                    out |= 1 << i;
                }
            }
            return out;
        }

        boolean standsStill(int set) {
            return putOutOf(set) == 0;
        }

        boolean mayJoin(int i) {
            return !isIn(i) && (in & ~likedBy[i]) == 0;
        }

        // -- deeds

        void putOut(int i) {
            in &= ~(1 << i);
            note(OUT, i);
        }

        void letIn(int i) {
            in |= 1 << i;
            note(IN, i);
        }

        void payFee() {
            int payers = 0;
            for (int i = 0; i < children; i++) {
                if (isIn(i) && pence[i] > 0) {
                    payers |= 1 << i;
                    pence[i]--;
                    tin++;
                }
            }
            note(FEE, payers);
        }

        void bearGrudge(int i, int k) {
            toggleLiking(i, k);
            note(GRUDGE, MOST_CHILDREN * i + k);
        }

        void toggleLiking(int i, int k) {
            likedBy[k] ^= 1 << i;
        }

        void doByLot(int lot) {
            if (children == 0) {
                return;
            }
            int i = lot % children;
            int k = lot / 16 % children;
            if ((putOutOf(in) & 1 << i) != 0) {
                putOut(i);
            } else if (mayJoin(i)) {
                letIn(i);
            } else if (i == k) {
                payFee();
            } else {
                bearGrudge(i, k);
            }
        }

        private void note(int deed, int what) {
            if (deedCount < MOST_DEEDS) {
                deeds[deedCount] = DEED * deed + what;
                deedCount++;
            }
        }

        void undoLast() {
            if (deedCount == 0) {
                return;
            }
            deedCount--;
            int what = deeds[deedCount] % DEED;
            switch (deeds[deedCount] / DEED) {
                case OUT:
                    in |= 1 << what;
                    break;
                case IN:
                    in &= ~(1 << what);
                    break;
                case FEE:
                    giveBack(what);
                    break;
                default:
                    toggleLiking(what / MOST_CHILDREN, what % MOST_CHILDREN);
                    break;
            }
        }

        private void giveBack(int payers) {
            for (int i = 0; i < children; i++) {
                if ((payers & 1 << i) != 0) {
                    pence[i]++;
                    tin--;
                }
            }
        }
    }

    /**
     * Orders in which children of a club are put out. Whether one can be hangs on who is in alone,
     * not on the way there, so sums over the 64 sets stand for all orders.
     */
    private static final class Orders {
        private final int[] ofSet = new int[SETS];

        int layLongest(Club club, Row row) {
            measureLengths(club);
            int set = club.in;
            int length = ofSet[set];
            row.renew(length);
            for (int place = 0; place < length; place++) {
                int i = firstOfLongest(club, set);
                row.places[place] = i;
                set &= ~(1 << i);
            }
            return length;
        }

        private void measureLengths(Club club) {
            for (int set = 0; set <= club.in; set++) {
                ofSet[set] = 0;
                boolean within = (set & ~club.in) == 0;
                int out = within ? club.putOutOf(set) : 0;
                for (int i = 0; i < club.children; i++) {
                    if ((out & 1 << i) != 0) {
                        ofSet[set] = Math.max(ofSet[set], 1 + ofSet[set & ~(1 << i)]);
                    }
                }
            }
        }

        private int firstOfLongest(Club club, int set) {
            int out = club.putOutOf(set);
            for (int i = 0; i < club.children; i++) {
                if ((out & 1 << i) != 0 && ofSet[set & ~(1 << i)] == ofSet[set] - 1) {
                    return i;
                }
            }
            return 0;
        }

        /** Of each set in how many orders it comes to be in. */
        void countPaths(Club club) {
            for (int set = 0; set < SETS; set++) {
                ofSet[set] = 0;
            }
            ofSet[club.in] = 1;
            for (int set = club.in; set > 0; set--) {
                int out = ofSet[set] > 0 ? club.putOutOf(set) : 0;
                for (int i = 0; i < club.children; i++) {
                    if ((out & 1 << i) != 0) {
                        ofSet[set & ~(1 << i)] += ofSet[set];
                    }
                }
            }
        }

        /** By counted paths: in how many orders nobody can be put out at last, and these are in. */
        int endsWith(Club club, int these) {
            int ends = 0;
            for (int set = 0; set <= club.in; set++) {
                if (ofSet[set] > 0 && (these & ~set) == 0 && club.standsStill(set)) {
                    ends += ofSet[set];
                }
            }
            return ends;
        }

        int lastOnes(Club club) {
            countPaths(club);
            int last = 0;
            for (int i = 0; i < club.children; i++) {
                if (ofSet[1 << i] > 0) {
                    last |= 1 << i;
                }
            }
            return last;
        }

        /** Who is in behind an order of a row, as far as it goes. */
        static int leftBy(Club club, Row row) {
            int set = club.in;
            for (int place = 0; place < row.size; place++) {
                int bit = 1 << row.places[place];
                if ((club.putOutOf(set) & bit) == 0) {
                    return set;
                }
                set &= ~bit;
            }
            return set;
        }
    }

    /** Grudges by which those in stand still: tried out on the club, and taken back at once. */
    private static final class Peace {
        /** The first one that does alone, from a pair on, or NONE. */
        static int firstGrudge(Club club, int from) {
            // A grudge changes the votes on one child alone, so it can't keep two.
            if (Integer.bitCount(club.putOutOf(club.in)) > 1) {
                return NONE;
            }
            for (int pair = from; pair < PAIRS; pair++) {
                if (isPairIn(club, pair)) {
                    toggle(club, pair);
                    int out = club.putOutOf(club.in);
                    toggle(club, pair);
                    if (out == 0) {
                        return pair;
                    }
                }
            }
            return NONE;
        }

        /** The first two that do together, told as one number, or NONE. */
        static int firstTwoGrudges(Club club) {
            for (int pair = 0; pair < PAIRS; pair++) {
                if (isPairIn(club, pair)) {
                    toggle(club, pair);
                    int second = firstGrudge(club, pair + 1);
                    toggle(club, pair);
                    if (second != NONE) {
                        return PAIRS * pair + second;
                    }
                }
            }
            return NONE;
        }

        private static boolean isPairIn(Club club, int pair) {
            int who = pair / MOST_CHILDREN;
            int whom = pair % MOST_CHILDREN;
            return who != whom && club.isIn(who) && club.isIn(whom);
        }

        private static void toggle(Club club, int pair) {
            club.toggleLiking(pair / MOST_CHILDREN, pair % MOST_CHILDREN);
        }
    }

    /** Sums over sets of children that hold nothing of their own. */
    private static final class Sums {
        /** In how many orders of those in the votes of one make the more than half. */
        static int decidedBy(Club club, int i) {
            int all = club.votesOfSet(club.in);
            int own = club.votesOf(i);
            int others = club.in & ~(1 << i);
            int decided = 0;
            for (int ahead = 0; ahead <= others; ahead++) {
                int votes = club.votesOfSet(ahead);
                if ((ahead & ~others) == 0 && 2 * votes <= all && 2 * (votes + own) > all) {
                    decided += FACTORIALS[Integer.bitCount(ahead)] * FACTORIALS[Integer.bitCount(others & ~ahead)];
                }
            }
            return decided;
        }

        static boolean namesSets(Row pairs, int children) {
            for (int place = 0; place + 1 < pairs.size; place += 2) {
                int set = pairs.places[place];
                int out = pairs.places[place + 1];
                if (set < 0 || set >= 1 << children || out < 0 || out > 1) {
                    return false;
                }
            }
            return true;
        }

        /** Who knew just the secrets that got out. */
        static int suspects(Row pairs, int in) {
            int left = in;
            for (int place = 0; place + 1 < pairs.size; place += 2) {
                int set = pairs.places[place];
                left &= pairs.places[place + 1] == 1 ? set : ~set;
            }
            return left;
        }

        static long likingsOf(Row pairs, Club club) {
            long all = 1;
            for (int i = 0; i < club.children; i++) {
                if (isNamed(pairs, i)) {
                    all *= likersThatFit(pairs, club, i);
                }
            }
            return all;
        }

        private static boolean isNamed(Row pairs, int i) {
            for (int place = 0; place < pairs.size; place += 2) {
                if (pairs.places[place] == i) {
                    return true;
                }
            }
            return false;
        }

        private static int likersThatFit(Row pairs, Club club, int i) {
            int all = (1 << club.children) - 1;
            int fitting = 0;
            for (int likers = 0; likers <= all; likers++) {
                boolean others = (likers & 1 << i) == 0;
                if (others && allSay(pairs, i, club.votesAgainst(i, all, likers))) {
                    fitting++;
                }
            }
            return fitting;
        }

        private static boolean allSay(Row pairs, int i, int yes) {
            for (int place = 0; place + 1 < pairs.size; place += 2) {
                if (pairs.places[place] == i && pairs.places[place + 1] != yes) {
                    return false;
                }
            }
            return true;
        }

        static long commonDivisor(long a, long b) {
            // Euclid's steps on longs are fewer than a hundred.
            for (int step = 0; step < 100 && b != 0; step++) {
                long rest = a % b;
                a = b;
                b = rest;
            }
            return a;
        }
    }
}
