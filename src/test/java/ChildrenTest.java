/** Promises 12 to 14: child, mark, rule. */
public final class ChildrenTest {
    private static final Due due = new Due();

    public static void main(String[] args) {
        childTells();
        votesOfKinds();
        childRefuses();
        marks();
        marksLookAtThoseIn();
        markRefuses();
        ruleIsSet();
        ruleRefuses();
        due.end("ChildrenTest");
    }

    private static void childTells() {
        NobodyJoins x = Due.clubOf("r0m1p9m2m3l01l02l12");
        tells(x, 1, 0, 1);
        tells(x, 1, 1, 9);
        tells(x, 1, 2, 1);
        tells(x, 1, 3, 2);
        tells(x, 1, 4, 4);
        tells(x, 1, 5, 1);
        tells(x, 0, 4, 6);
        tells(x, 2, 5, 3);
        due.is("oust(3)", x.oust(3), 3);
        tells(x, 3, 2, 0);
        x.grudge(3, 0);
        tells(x, 0, 5, 8);
    }

    private static void votesOfKinds() {
        NobodyJoins x = Due.clubOf("r0m9p9g9t5f9s9");
        int[] votes = {1, 2, 1, 2, 3, 0};
        for (int i = 0; i < 6; i++) {
            tells(x, i, 0, i);
            tells(x, i, 3, votes[i]);
        }
        x.fee();
        tells(x, 3, 1, 4);
        tells(x, 3, 3, 1);
    }

    private static void tells(NobodyJoins x, int i, int what, int value) {
        due.is("child(" + i + ", " + what + ")", x.child(i, what), 1);
        due.is("child(" + i + ", " + what + "), asked()", x.asked(), value);
    }

    private static void childRefuses() {
        NobodyJoins x = new NobodyJoins();
        due.is("child(0, 0) without children", x.child(0, 0), NobodyJoins.BAD);
        x = Due.clubOf("r0m1m2");
        x.child(1, 1);
        long[] before = Due.state(x);
        due.is("child(-1, 0)", x.child(-1, 0), NobodyJoins.BAD);
        due.is("child(2, 0)", x.child(2, 0), NobodyJoins.BAD);
        due.is("child(0, -1)", x.child(0, -1), NobodyJoins.BAD);
        due.is("child(0, 6)", x.child(0, 6), NobodyJoins.BAD);
        due.unchanged("refused child", x, before);
    }

    private static void marks() {
        NobodyJoins x = Due.clubOf("r0p0g0t3f0s0m0l10l12l25l43l54");
        due.is("a PRESIDENT's", x.mark(0, 1), 1);
        due.is("a FOUNDER's as a PRESIDENT", x.mark(3, 1), 2);
        due.is("a GUARD's", x.mark(1, 2), 2);
        due.is("a TREASURER's", x.mark(2, 3), 2);
        due.is("a FOUNDER's", x.mark(3, 4), 4);
        due.is("a SISTER's", x.mark(4, 5), 1);
        due.is("a TREASURER's of 9 PENCE", Due.clubOf("r0t9").mark(0, 3), 0);
        due.is("a TREASURER's of none", Due.clubOf("r0t0").mark(0, 3), 5);
        due.is("a FOUNDER's alone", Due.clubOf("r0f0").mark(0, 4), 0);
    }

    private static void marksLookAtThoseIn() {
        NobodyJoins x = Due.clubOf("r0m0g0f0s0m0l10l14l02l03l43");
        due.is("GUARD, all IN", x.mark(1, 2), 2);
        due.is("FOUNDER, all IN", x.mark(2, 4), 3);
        due.is("SISTER, all IN", x.mark(3, 5), 2);
        x.grudge(1, 0);
        due.is("oust(0)", x.oust(0), 4);
        x.grudge(1, 0);
        due.is("GUARD, one liked is out", x.mark(1, 2), 1);
        due.is("FOUNDER, the one who likes is out", x.mark(2, 4), 3);
        due.is("SISTER, one who likes is out", x.mark(3, 5), 1);
        due.is("oust(3)", x.oust(3), 3);
        due.is("SISTER who is out herself", x.mark(3, 5), 1);
        due.is("FOUNDER, a SISTER is out", x.mark(2, 4), 2);
    }

    private static void markRefuses() {
        NobodyJoins x = Due.clubOf("r0m0p0f0");
        long[] before = Due.state(x);
        due.is("mark(-1, 1)", x.mark(-1, 1), NobodyJoins.BAD);
        due.is("mark(3, 1)", x.mark(3, 1), NobodyJoins.BAD);
        due.is("mark(0, 0)", x.mark(0, 0), NobodyJoins.BAD);
        due.is("mark(0, -1)", x.mark(0, -1), NobodyJoins.BAD);
        due.is("mark(0, 6)", x.mark(0, 6), NobodyJoins.BAD);
        due.is("no finding by BAD", x.finding(), 0);
        due.finds("a MEMBER is no PRESIDENT", x, x.mark(0, 1), Due.UNLIKE);
        due.finds("a PRESIDENT is no FOUNDER", x, x.mark(1, 4), Due.UNLIKE);
        due.finds("a FOUNDER is no GUARD", x, x.mark(2, 2), Due.UNLIKE);
        due.is("findings(3)", x.findings(3), 3);
        due.unchanged("refused mark", x, before);
    }

    private static void ruleIsSet() {
        NobodyJoins x = Due.clubOf("r3m0m0");
        due.is("rule(1)", x.rule(1), 3);
        due.is("rule(0)", x.rule(0), 1);
        due.is("rule(0) again", x.rule(0), 0);
        x.fee();
        x.undo(0);
        due.is("rule(2), all undone", x.rule(2), 0);
    }

    private static void ruleRefuses() {
        NobodyJoins x = new NobodyJoins();
        due.is("rule(-1) without children: BAD goes ahead", x.rule(-1), NobodyJoins.BAD);
        due.is("rule(0) without children", x.rule(0), NobodyJoins.STATE);
        x = Due.clubOf("r0m0m0");
        x.fee();
        long[] before = Due.state(x);
        due.is("rule(4)", x.rule(4), NobodyJoins.BAD);
        due.is("rule(1) behind a DEED", x.rule(1), NobodyJoins.STATE);
        due.unchanged("refused rule", x, before);
    }
}
