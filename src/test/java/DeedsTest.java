/** Promises 15 to 21: oust, join, fee, grudge, undo, keep, on. */
public final class DeedsTest {
    private static final Due due = new Due();

    public static void main(String[] args) {
        ousts();
        oustRefuses();
        joins();
        joinRefuses();
        fees();
        feeRefuses();
        grudges();
        grudgeRefuses();
        undoes();
        undoRefuses();
        fullComesLast();
        keepsAndGoesOn();
        keepAndOnRefuse();
        due.end("DeedsTest");
    }

    private static void ousts() {
        NobodyJoins x = Due.clubOf("r0m0m0m0");
        due.is("oust(1)", x.oust(1), 2);
        due.is("who is IN", x.count(1), 5);
        due.is("DEEDS", x.count(3), 1);
        due.is("oust(0) by one against one", x.oust(0), NobodyJoins.STATE);
    }

    private static void oustRefuses() {
        NobodyJoins x = Due.clubOf("r0m0m0m0l01");
        x.oust(2);
        long[] before = Due.state(x);
        due.is("oust(-1)", x.oust(-1), NobodyJoins.BAD);
        due.is("oust(3)", x.oust(3), NobodyJoins.BAD);
        due.is("oust(2), who is out", x.oust(2), NobodyJoins.STATE);
        due.is("oust(1), who can't be", x.oust(1), NobodyJoins.STATE);
        due.unchanged("refused oust", x, before);
        due.is("oust(0) without children", new NobodyJoins().oust(0), NobodyJoins.BAD);
    }

    private static void joins() {
        NobodyJoins x = Due.clubOf("r0m0m0m0l12");
        due.is("oust(0)", x.oust(0), 2);
        due.is("join(0), liked by none", x.join(0), NobodyJoins.STATE);
        x.grudge(1, 0);
        due.is("join(0), liked by one of two", x.join(0), NobodyJoins.STATE);
        x.grudge(2, 0);
        due.is("join(0), liked by both", x.join(0), 3);
        due.is("who is IN", x.count(1), 7);
        due.is("DEEDS", x.count(3), 4);
    }

    private static void joinRefuses() {
        NobodyJoins x = Due.clubOf("r0m0m0m0l10l20");
        long[] before = Due.state(x);
        due.is("join(-1)", x.join(-1), NobodyJoins.BAD);
        due.is("join(3)", x.join(3), NobodyJoins.BAD);
        due.is("join(0), who is IN and liked", x.join(0), NobodyJoins.STATE);
        due.unchanged("refused join", x, before);
        due.is("join(0) without children", new NobodyJoins().join(0), NobodyJoins.BAD);
    }

    private static void fees() {
        NobodyJoins x = Due.clubOf("r0m2m1m0m5");
        due.is("fee()", x.fee(), 3);
        due.is("fee()", x.fee(), 5);
        due.is("fee()", x.fee(), 6);
        due.is("oust(3)", x.oust(3), 3);
        due.is("fee() without the one who has PENCE", x.fee(), 6);
        int[] left = {0, 0, 0, 2};
        for (int i = 0; i < 4; i++) {
            x.child(i, 1);
            due.is("PENCE of " + i, x.asked(), left[i]);
        }
        due.is("the TIN", x.count(2), 6);
        due.is("DEEDS", x.count(3), 5);
    }

    private static void feeRefuses() {
        NobodyJoins x = new NobodyJoins();
        long[] before = Due.state(x);
        due.is("fee() without children", x.fee(), NobodyJoins.STATE);
        due.unchanged("refused fee", x, before);
    }

    private static void grudges() {
        NobodyJoins x = Due.clubOf("r0m0m0m0l01");
        due.is("grudge(0, 1)", x.grudge(0, 1), 0);
        due.is("grudge(0, 1) again", x.grudge(0, 1), 1);
        due.is("grudge(1, 0)", x.grudge(1, 0), 1);
        x.oust(2);
        due.is("grudge(2, 0) of one who is out", x.grudge(2, 0), 1);
        x.child(0, 5);
        due.is("who LIKES 0", x.asked(), 6);
        x.child(1, 5);
        due.is("who LIKES 1", x.asked(), 1);
        due.is("DEEDS", x.count(3), 5);
    }

    private static void grudgeRefuses() {
        NobodyJoins x = Due.clubOf("r0m0m0");
        long[] before = Due.state(x);
        due.is("grudge(0, 0)", x.grudge(0, 0), NobodyJoins.BAD);
        due.is("grudge(2, 0)", x.grudge(2, 0), NobodyJoins.BAD);
        due.is("grudge(0, 2)", x.grudge(0, 2), NobodyJoins.BAD);
        due.is("grudge(-1, 0)", x.grudge(-1, 0), NobodyJoins.BAD);
        due.is("grudge(0, -1)", x.grudge(0, -1), NobodyJoins.BAD);
        due.unchanged("refused grudge", x, before);
    }

    private static void undoes() {
        NobodyJoins x = Due.clubOf("r0m2m1m0t5l12");
        long[] at = new long[8];
        at[0] = x.digest();
        x.fee();
        at[1] = x.digest();
        x.oust(0);
        at[2] = x.digest();
        x.grudge(1, 0);
        at[3] = x.digest();
        x.grudge(2, 0);
        at[4] = x.digest();
        x.grudge(3, 0);
        at[5] = x.digest();
        due.is("join(0)", x.join(0), 4);
        at[6] = x.digest();
        x.fee();
        x.grudge(1, 2);
        due.is("undo(8)", x.undo(8), 0);
        due.is("undo(6)", x.undo(6), 2);
        due.is("as behind 6", x.digest(), at[6]);
        for (int n = 5; n >= 0; n--) {
            due.is("undo(" + n + ")", x.undo(n), 1);
            due.is("as behind " + n, x.digest(), at[n]);
        }
        due.is("undo(0) of none", x.undo(0), 0);
    }

    private static void undoRefuses() {
        NobodyJoins x = Due.clubOf("r0m2m1");
        x.fee();
        long[] before = Due.state(x);
        due.is("undo(-1)", x.undo(-1), NobodyJoins.BAD);
        due.is("undo(2)", x.undo(2), NobodyJoins.BAD);
        due.unchanged("refused undo", x, before);
        due.is("undo(0) without children", new NobodyJoins().undo(0), 0);
        due.is("undo(1) without children", new NobodyJoins().undo(1), NobodyJoins.BAD);
    }

    private static void fullComesLast() {
        NobodyJoins x = Due.clubOf("r0m9m9m9m9l01");
        x.oust(3);
        x.grudge(0, 3);
        x.grudge(1, 3);
        x.grudge(2, 3);
        for (int deed = 4; deed < 40; deed++) {
            due.is("DEED " + deed, x.fee() >= 0 ? 1 : 0, 1);
        }
        due.is("DEEDS", x.count(3), 40);
        long[] before = Due.state(x);
        due.is("oust(0), who can be", x.oust(0), NobodyJoins.FULL);
        due.is("oust(1), who can't be", x.oust(1), NobodyJoins.STATE);
        due.is("oust(4)", x.oust(4), NobodyJoins.BAD);
        due.is("join(3), who may", x.join(3), NobodyJoins.FULL);
        due.is("join(0), who is IN", x.join(0), NobodyJoins.STATE);
        due.is("fee()", x.fee(), NobodyJoins.FULL);
        due.is("grudge(0, 1)", x.grudge(0, 1), NobodyJoins.FULL);
        due.is("grudge(0, 0)", x.grudge(0, 0), NobodyJoins.BAD);
        due.is("lots(1, 1)", x.lots(1, 1), NobodyJoins.FULL);
        due.unchanged("refused by FULL", x, before);
        due.is("undo(39)", x.undo(39), 1);
        due.is("oust(0) of place 39", x.oust(0), 2);
    }

    private static void keepsAndGoesOn() {
        NobodyJoins x = Due.clubOf("r1m5m5m5m5l01");
        due.is("keep(0)", x.keep(0), 0);
        due.is("rule(0)", x.rule(0), 1);
        x.fee();
        x.oust(2);
        x.grudge(0, 1);
        due.is("keep(2)", x.keep(2), 3);
        due.is("kept CLUBS", x.count(8), 2);
        long kept = x.digest();
        x.undo(0);
        x.grudge(3, 2);
        due.is("on(2)", x.on(2), 3);
        due.is("as it was kept", x.digest(), kept);
        due.is("undo(2) of a DEED that was kept", x.undo(2), 1);
        x.child(1, 5);
        due.is("0 LIKES 1 again", x.asked(), 1);
        x.undo(0);
        due.is("who is IN", x.count(1), 15);
        due.is("the TIN", x.count(2), 0);
        due.is("on(0)", x.on(0), 0);
        due.is("the RULE that was kept", x.rule(1), 1);
        due.is("on(2) again", x.on(2), 3);
        due.is("as it was kept, again", x.digest(), kept);
        due.is("keep(2) anew", x.on(0) + x.keep(2), 0);
        due.is("on(2) of the new one", x.on(2), 0);
    }

    private static void keepAndOnRefuse() {
        NobodyJoins x = new NobodyJoins();
        due.is("keep(3) without children", x.keep(3), NobodyJoins.BAD);
        due.is("keep(0) without children", x.keep(0), NobodyJoins.STATE);
        x = Due.clubOf("r0m1m1");
        x.keep(1);
        long[] before = Due.state(x);
        due.is("keep(-1)", x.keep(-1), NobodyJoins.BAD);
        due.is("keep(3)", x.keep(3), NobodyJoins.BAD);
        due.is("on(-1)", x.on(-1), NobodyJoins.BAD);
        due.is("on(3)", x.on(3), NobodyJoins.BAD);
        due.finds("on(0), not kept", x, x.on(0), Due.NOTHING);
        due.unchanged("refused keep, on", x, before);
    }
}
