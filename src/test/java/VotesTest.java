/** Promises 22 to 25: yes, can, swing, rules, and by them the Terms of votes. */
public final class VotesTest {
    private static final Due due = new Due();

    public static void main(String[] args) {
        yesAndNo();
        yesRefuses();
        ruleByMore();
        ruleByTwice();
        ruleByAllOthers();
        ruleBySisters();
        guardsHold();
        foundersHold();
        canTells();
        swings();
        rulesAreOfNow();
        swingAndRulesRefuse();
        due.end("VotesTest");
    }

    private static void yesAndNo() {
        NobodyJoins x = Due.clubOf("r0m0p0t5f0s0l10l30l40");
        votes(x, 0, 2, 6);
        votes(x, 1, 6, 2);
        votes(x, 4, 8, 0);
        x.oust(4);
        votes(x, 0, 2, 6);
        due.is("oust(2)", x.oust(2), 3);
        votes(x, 0, 0, 6);
        votes(Due.clubOf("r0f0"), 0, 0, 3);
    }

    private static void votes(NobodyJoins x, int i, int yes, int no) {
        due.is("yes(" + i + ")", x.yes(i), yes);
        due.is("yes(" + i + "), asked()", x.asked(), no);
    }

    private static void yesRefuses() {
        NobodyJoins x = Due.clubOf("r0m0m0m0");
        x.oust(0);
        x.yes(1);
        long[] before = Due.state(x);
        due.is("yes(-1)", x.yes(-1), NobodyJoins.BAD);
        due.is("yes(3)", x.yes(3), NobodyJoins.BAD);
        due.is("yes(0), who is out", x.yes(0), NobodyJoins.STATE);
        due.unchanged("refused yes", x, before);
    }

    private static void rulesOf(String club, int i, int rules) {
        due.is("rules(" + i + ") of " + club, Due.clubOf(club).rules(i), rules);
    }

    private static void ruleByMore() {
        rulesOf("r0m0m0", 0, 4);
        rulesOf("r0m0m0m0m0l10", 0, 0);
        rulesOf("r0m0m0m0m0m0l10", 0, 9);
    }

    private static void ruleByTwice() {
        rulesOf("r0m0m0m0", 0, 15);
        rulesOf("r0m0m0p0m0l10", 0, 9);
        rulesOf("r0m0m0p0p0l10", 0, 11);
        rulesOf("r0s0s0", 0, 0);
        rulesOf("r0s0m0l10", 0, 0);
        rulesOf("r0s0m0", 0, 15);
    }

    private static void ruleByAllOthers() {
        rulesOf("r0f0m0", 1, 15);
        rulesOf("r0m0s0m0m0l10", 0, 7);
        rulesOf("r0p0m0", 0, 4);
        rulesOf("r0m0", 0, 0);
    }

    private static void ruleBySisters() {
        rulesOf("r0m0m0m0s0", 0, 15);
        rulesOf("r0m0m0m0s0l30", 0, 7);
        rulesOf("r0m0m0m0s0s0l30", 0, 15);
        rulesOf("r0m0m0m0s0s0l30l40", 0, 7);
        rulesOf("r0s0m0m0", 0, 15);
        NobodyJoins x = Due.clubOf("r0m0m0m0s0l30");
        due.is("oust(3)", x.oust(3), 3);
        due.is("rules(0), the SISTER being out", x.rules(0), 15);
    }

    private static void guardsHold() {
        rulesOf("r0m0m0m0m0g0l40", 0, 0);
        rulesOf("r0m0m0m0m0g0", 0, 15);
        rulesOf("r0g0m0m0m0", 0, 15);
        NobodyJoins x = Due.clubOf("r0m0m0m0m0g0l40");
        due.is("oust(4)", x.oust(4), 4);
        due.is("rules(0), the GUARD being out", x.rules(0), 15);
    }

    private static void foundersHold() {
        rulesOf("r0f0p0p0m0", 0, 13);
        rulesOf("r0f0p0p0p0p0m0l50", 0, 0);
        rulesOf("r0f0p0p0p0p0s0l50", 0, 7);
        rulesOf("r0p0p0p0p0p0m0l50", 0, 11);
        rulesOf("r0f0m0", 0, 4);
    }

    private static void canTells() {
        NobodyJoins x = Due.clubOf("r0m0m0m0m0l10l20");
        due.is("can()", x.can(), 14);
        due.is("can(), asked()", x.asked(), 0);
        x.oust(3);
        x.grudge(1, 3);
        x.grudge(2, 3);
        due.is("can(), 3 liked by two of three", x.can(), 6);
        due.is("nobody may JOIN", x.asked(), 0);
        x.grudge(0, 3);
        due.is("can() again", x.can(), 6);
        due.is("3 may JOIN", x.asked(), 8);
        NobodyJoins first = Due.clubOf("r0m0m0m0l12l21");
        first.oust(0);
        first.grudge(1, 0);
        first.grudge(2, 0);
        first.can();
        due.is("0 may JOIN", first.asked(), 1);
        NobodyJoins none = new NobodyJoins();
        due.is("can() without children", none.can(), 0);
        due.is("can() without children, asked()", none.asked(), 0);
    }

    private static void swings() {
        NobodyJoins x = Due.clubOf("r0m0m0m0m0l10");
        due.is("swing(0): two to two", x.swing(0), 2);
        due.is("swing(1): three to one", x.swing(1), 13);
        x = Due.clubOf("r0m0p0m0m0m0g0");
        due.is("swing(0): six to one, a GUARD", x.swing(0), 32);
        x = Due.clubOf("r0m0m0m0m0");
        x.oust(3);
        due.is("swing(0), who is out aside", x.swing(0), 6);
        due.is("swing of one alone", Due.clubOf("r0m0").swing(0), 0);
        x = Due.clubOf("r3m0m0m0m0s0");
        due.is("swing(0), a SISTER", x.swing(0), 30);
        x = Due.clubOf("r2m0m0s0l10");
        due.is("swing(0) by RULE 2", x.swing(0), 2);
    }

    private static void rulesAreOfNow() {
        NobodyJoins x = Due.clubOf("r2m0m0m0m0l10l20");
        due.is("rules(0)", x.rules(0), 0);
        x.grudge(1, 0);
        due.is("rules(0), one LIKES it", x.rules(0), 0);
        x.grudge(2, 0);
        due.is("rules(0), none LIKES it", x.rules(0), 15);
    }

    private static void swingAndRulesRefuse() {
        NobodyJoins x = Due.clubOf("r0m0m0m0");
        x.oust(2);
        long[] before = Due.state(x);
        due.is("swing(-1)", x.swing(-1), NobodyJoins.BAD);
        due.is("swing(3)", x.swing(3), NobodyJoins.BAD);
        due.is("swing(2), who is out", x.swing(2), NobodyJoins.STATE);
        due.is("rules(-1)", x.rules(-1), NobodyJoins.BAD);
        due.is("rules(3)", x.rules(3), NobodyJoins.BAD);
        due.is("rules(2), who is out", x.rules(2), NobodyJoins.STATE);
        due.unchanged("refused swing, rules", x, before);
    }
}
