/** Promises 35 to 37: secrets, told, minutes. */
public final class SecretsTest {
    private static final Due due = new Due();

    public static void main(String[] args) {
        fewestSecrets();
        whoTold();
        toldRefusesInOrder();
        minutesTell();
        minutesRefuseInOrder();
        due.end("SecretsTest");
    }

    private static void fewestSecrets() {
        due.is("secrets() of none", new NobodyJoins().secrets(), NobodyJoins.STATE);
        int[] fewest = {0, 1, 2, 2, 3, 3};
        String club = "r2";
        for (int i = 0; i < 6; i++) {
            club += "m0";
            due.is("secrets() of " + (i + 1), Due.clubOf(club).secrets(), fewest[i]);
        }
        NobodyJoins x = Due.clubOf(club);
        x.oust(5);
        x.oust(4);
        due.is("secrets() of four left", x.secrets(), 2);
    }

    private static void toldIs(NobodyJoins x, int who, int... pairs) {
        Due.layRow(x, 1, pairs);
        due.is("told(1)", x.told(1), who);
    }

    private static void whoTold() {
        NobodyJoins x = Due.clubOf("r2m0m0m0m0");
        toldIs(x, 15);
        toldIs(x, 7, 7, 1);
        toldIs(x, 8, 7, 0);
        toldIs(x, 2, 3, 1, 5, 0);
        toldIs(x, 0, 3, 1, 3, 0);
        toldIs(x, 15, 15, 1, 0, 0);
        toldIs(x, 0, 0, 1);
        x.oust(1);
        toldIs(x, 5, 7, 1);
        toldIs(x, 0, 2, 1);
    }

    private static void toldRefusesInOrder() {
        NobodyJoins x = new NobodyJoins();
        due.is("told(6) without children", x.told(6), NobodyJoins.BAD);
        due.is("told(0) without children and row", x.told(0), NobodyJoins.STATE);
        x = Due.clubOf("r0m0m0");
        Due.layRow(x, 0, 9, 1, 1);
        Due.layRow(x, 1, 4, 1);
        Due.layRow(x, 2, -1, 1);
        Due.layRow(x, 3, 3, 1, 3, 2);
        Due.layRow(x, 4, 3, -1);
        long[] before = Due.state(x);
        due.is("told(-1)", x.told(-1), NobodyJoins.BAD);
        due.finds("told of a missing row", x, x.told(5), Due.NOTHING);
        due.finds("told not by pairs, and no set", x, x.told(0), Due.SIZE);
        due.finds("told: a set of no CHILDREN", x, x.told(1), Due.UNLIKE);
        due.finds("told: a set below 0", x, x.told(2), Due.UNLIKE);
        due.finds("told: a 2", x, x.told(3), Due.UNLIKE);
        due.finds("told: a -1", x, x.told(4), Due.UNLIKE);
        due.unchanged("refused told", x, before);
    }

    private static void minutesAre(NobodyJoins x, long ways, int... pairs) {
        Due.layRow(x, 2, pairs);
        due.is("odds(12) ahead", x.odds(12), 1);
        due.is("minutes(2)", x.minutes(2), 1);
        due.is("minutes(2), upper()", x.upper(), ways);
        due.is("minutes(2), lower()", x.lower(), 1);
    }

    private static void minutesTell() {
        NobodyJoins x = Due.clubOf("r0m0m0m0l10");
        minutesAre(x, 1);
        minutesAre(x, 1, 0, 2);
        minutesAre(x, 2, 0, 1);
        minutesAre(x, 1, 0, 0);
        minutesAre(x, 4, 0, 1, 1, 1);
        minutesAre(x, 8, 0, 1, 1, 1, 2, 1);
        minutesAre(x, 2, 0, 1, 0, 1);
        minutesAre(x, 0, 0, 1, 0, 2);
        minutesAre(x, 0, 0, 1, 1, 3);
        minutesAre(x, 0, 0, -1);
        minutesAre(x, 0, 0, Integer.MIN_VALUE);
        x.oust(2);
        minutesAre(x, 2, 0, 1);
        NobodyJoins p = Due.clubOf("r0p0m0m0");
        minutesAre(p, 1, 1, 3);
        minutesAre(p, 1, 1, 2, 2, 0);
        minutesAre(p, 0, 1, 4);
        NobodyJoins s = Due.clubOf("r0s0s0s0s0s0s0");
        minutesAre(s, 32L * 32 * 32 * 32 * 32 * 32, 0, 0, 1, 0, 2, 0, 3, 0, 4, 0, 5, 0);
        NobodyJoins t = Due.clubOf("r0m0t5m0");
        minutesAre(t, 1, 0, 3);
        t.fee();
        minutesAre(t, 0, 0, 3);
        minutesAre(t, 1, 0, 2);
    }

    private static void minutesRefuseInOrder() {
        NobodyJoins x = new NobodyJoins();
        due.is("minutes(6) without children", x.minutes(6), NobodyJoins.BAD);
        due.is("minutes(0) without children and row", x.minutes(0), NobodyJoins.STATE);
        x = Due.clubOf("r0m0m0");
        Due.layRow(x, 0, 9, 1, 1);
        Due.layRow(x, 1, 0, 1, 2, 1);
        Due.layRow(x, 2, -1, 1);
        x.power(0);
        long[] before = Due.state(x);
        due.is("minutes(-1)", x.minutes(-1), NobodyJoins.BAD);
        due.finds("minutes of a missing row", x, x.minutes(5), Due.NOTHING);
        due.finds("minutes not by pairs, and no CHILD", x, x.minutes(0), Due.SIZE);
        due.finds("minutes of no CHILD", x, x.minutes(1), Due.UNLIKE);
        due.finds("minutes of a CHILD below 0", x, x.minutes(2), Due.UNLIKE);
        due.unchanged("refused minutes", x, before);
    }
}
