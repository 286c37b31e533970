/** Promises 33 and 34: power, share. */
public final class WorthTest {
    private static final Due due = new Due();

    public static void main(String[] args) {
        powers();
        powerRefuses();
        shares();
        shareRefuses();
        due.end("WorthTest");
    }

    private static void powerIs(NobodyJoins x, int i, long upper, long lower) {
        due.is("power(" + i + ")", x.power(i), 1);
        due.is("power(" + i + "), upper()", x.upper(), upper);
        due.is("power(" + i + "), lower()", x.lower(), lower);
    }

    private static void powers() {
        powerIs(Due.clubOf("r0m0"), 0, 1, 1);
        NobodyJoins x = Due.clubOf("r0p0m0m0s0");
        powerIs(x, 0, 2, 3);
        powerIs(x, 1, 1, 6);
        powerIs(x, 3, 0, 1);
        x.oust(1);
        powerIs(x, 0, 1, 1);
        powerIs(x, 2, 0, 1);
        powerIs(Due.clubOf("r0m0m0m0m0m0m0"), 4, 1, 6);
        NobodyJoins t = Due.clubOf("r0t5m0m0");
        powerIs(t, 0, 2, 3);
        t.fee();
        powerIs(t, 0, 1, 3);
    }

    private static void powerRefuses() {
        NobodyJoins x = Due.clubOf("r0m0m0m0");
        x.oust(0);
        x.power(1);
        long[] before = Due.state(x);
        due.is("power(-1)", x.power(-1), NobodyJoins.BAD);
        due.is("power(3)", x.power(3), NobodyJoins.BAD);
        due.is("power(0), who is out", x.power(0), NobodyJoins.STATE);
        due.unchanged("refused power", x, before);
        due.is("power(0), nobody has VOTES", Due.clubOf("r0s0s0").power(0), NobodyJoins.STATE);
        due.is("power(0) without children", new NobodyJoins().power(0), NobodyJoins.BAD);
    }

    private static void shareIs(NobodyJoins x, int i, int own, int friends) {
        due.is("share(" + i + ")", x.share(i), own);
        due.is("share(" + i + "), asked()", x.asked(), friends);
    }

    private static void shares() {
        NobodyJoins x = Due.clubOf("r0m9m9m9m9l10l20");
        shareIs(x, 0, 0, 0);
        x.fee();
        shareIs(x, 0, 1, 2);
        due.is("oust(3)", x.oust(3), 3);
        x.grudge(3, 0);
        due.is("fee()", x.fee(), 7);
        shareIs(x, 0, 3, 4);
        shareIs(x, 1, 2, 0);
        x.grudge(0, 1);
        shareIs(x, 1, 2, 3);
        NobodyJoins last = Due.clubOf("r2m9m9");
        last.fee();
        last.oust(1);
        shareIs(last, 0, 2, 0);
        NobodyJoins y = Due.clubOf("r0m9m9m9m9l13l23");
        y.fee();
        due.is("oust(0)", y.oust(0), 3);
        due.is("fee()", y.fee(), 7);
        shareIs(y, 1, 3, 0);
        shareIs(y, 2, 2, 0);
        shareIs(y, 3, 2, 5);
        y.fee();
        due.is("fee()", y.fee(), 13);
        shareIs(y, 1, 5, 0);
        y.undo(3);
        y.undo(2);
        shareIs(y, 3, 1, 3);
    }

    private static void shareRefuses() {
        NobodyJoins x = Due.clubOf("r0m1m1m1");
        x.oust(1);
        x.yes(0);
        long[] before = Due.state(x);
        due.is("share(-1)", x.share(-1), NobodyJoins.BAD);
        due.is("share(3)", x.share(3), NobodyJoins.BAD);
        due.is("share(1), who is out", x.share(1), NobodyJoins.STATE);
        due.unchanged("refused share", x, before);
    }
}
