/** Promises 38 and 39: odds, lots. */
public final class ChancesTest {
    private static final Due due = new Due();

    public static void main(String[] args) {
        chances();
        oddsRefuses();
        lotsByHand();
        lotsAsDeeds();
        lotsRefuse();
        due.end("ChancesTest");
    }

    private static void oddsAre(NobodyJoins x, int p, long upper, long lower) {
        due.is("odds(" + p + ")", x.odds(p), 1);
        due.is("odds(" + p + "), upper()", x.upper(), upper);
        due.is("odds(" + p + "), lower()", x.lower(), lower);
    }

    private static void chances() {
        oddsAre(new NobodyJoins(), 12, 0, 1);
        NobodyJoins x = Due.clubOf("r0m0m0m0m0l01");
        oddsAre(x, 12, 0, 1);
        x.oust(3);
        x.oust(2);
        due.is("who is IN", x.count(1), 3);
        x.grudge(2, 0);
        oddsAre(x, 7, 0, 1);
        x.grudge(0, 2);
        oddsAre(x, 7, 7, 12);
        x.grudge(1, 3);
        oddsAre(x, 0, 0, 1);
        oddsAre(x, 1, 23, 144);
        oddsAre(x, 4, 5, 9);
        oddsAre(x, 6, 3, 4);
        oddsAre(x, 12, 1, 1);
        nineTellers();
    }

    private static void nineTellers() {
        NobodyJoins x = Due.clubOf("r2m0m0m0m0m0m0");
        for (int i = 3; i < 6; i++) {
            x.oust(i);
            for (int k = 0; k < 3; k++) {
                x.grudge(k, i);
            }
        }
        due.is("who is IN", x.count(1), 7);
        oddsAre(x, 1, 5159780352L - 2357947691L, 5159780352L);
    }

    private static void oddsRefuses() {
        NobodyJoins x = Due.clubOf("r0m0m0m0");
        x.power(0);
        long[] before = Due.state(x);
        due.is("odds(-1)", x.odds(-1), NobodyJoins.BAD);
        due.is("odds(13)", x.odds(13), NobodyJoins.BAD);
        due.unchanged("refused odds", x, before);
    }

    private static void lotsByHand() {
        // 48271 is 1 of 3, and 3016 (1 of 3) by 16: a FEE, if 1 can't go.
        NobodyJoins x = Due.clubOf("r0m5m5m5l01");
        due.is("lots(1, 1)", x.lots(1, 1), 3);
        due.is("a FEE", x.count(2), 3);
        // 2 of 3 comes of seed 2 (96542), 6033 (0 of 3) by 16.
        NobodyJoins y = Due.clubOf("r0m5m5m5");
        due.is("lots(1, 2)", y.lots(1, 2), 2);
        due.is("2 is out", y.count(1), 3);
        due.is("lots(1, 2): 2 may not JOIN", y.lots(1, 2), 2);
        y.child(0, 5);
        due.is("2 LIKES 0", y.asked(), 4);
        y.grudge(0, 2);
        y.grudge(1, 2);
        due.is("lots(1, 2): 2 JOINS", y.lots(1, 2), 3);
        due.is("DEEDS", y.count(3), 5);
    }

    private static void lotsAsDeeds() {
        int[] seeds = {1, 2, 77, 4711, 31337, 2147483646, 2147483645, 1073741824};
        for (int seed : seeds) {
            NobodyJoins x = Due.clubOf("r0m3p1g2t5f1s4l01l12l20l34l43l51");
            NobodyJoins y = Due.clubOf("r0m3p1g2t5f1s4l01l12l20l34l43l51");
            due.is("lots(20, " + seed + ")", x.lots(20, seed), doneOneByOne(y, 20, seed));
            due.is("digest() behind lots", x.digest(), y.digest());
            due.is("DEEDS", x.count(3), 20);
            due.is("undo(7)", x.undo(7), 13);
            y.undo(0);
            doneOneByOne(y, 7, seed);
            due.is("digest() behind undone lots", x.digest(), y.digest());
        }
    }

    private static int doneOneByOne(NobodyJoins y, int n, int seed) {
        long lot = seed;
        for (int deed = 0; deed < n; deed++) {
            lot = lot * 48271 % 2147483647;
            int i = (int) (lot % 6);
            int k = (int) (lot / 16 % 6);
            if (y.oust(i) < 0 && y.join(i) < 0) {
                if (i == k) {
                    y.fee();
                } else {
                    y.grudge(i, k);
                }
            }
        }
        // So that what is asked() last is the same as with lots.
        return Integer.bitCount(y.count(1));
    }

    private static void lotsRefuse() {
        NobodyJoins x = new NobodyJoins();
        due.is("lots(0, 1) without children", x.lots(0, 1), NobodyJoins.BAD);
        due.is("lots(1, 1) without children", x.lots(1, 1), NobodyJoins.STATE);
        x = Due.clubOf("r0m1m1m1");
        for (int deed = 0; deed < 21; deed++) {
            x.fee();
        }
        long[] before = Due.state(x);
        due.is("lots(0, 1)", x.lots(0, 1), NobodyJoins.BAD);
        due.is("lots(-1, 1)", x.lots(-1, 1), NobodyJoins.BAD);
        due.is("lots(21, 1)", x.lots(21, 1), NobodyJoins.BAD);
        due.is("lots(1, 0)", x.lots(1, 0), NobodyJoins.BAD);
        due.is("lots(1, -1)", x.lots(1, -1), NobodyJoins.BAD);
        due.is("lots(1, 2147483647)", x.lots(1, Integer.MAX_VALUE), NobodyJoins.BAD);
        due.is("lots(20, 1): one too many", x.lots(20, 1), NobodyJoins.FULL);
        due.unchanged("refused lots", x, before);
        due.is("lots(19, 5): just as many", x.lots(19, 5) >= 0 ? 1 : 0, 1);
        due.is("DEEDS", x.count(3), 40);
    }
}
