/** Terms: a club as a text, its faults, kinds of children, their votes. */
final class TextEdges extends Edges {
    @Override
    void all() {
        blanks();
        rules();
        children();
        pairs();
        signsThatAreNone();
        childrenThatAreNot();
        tooMany();
        endsTooEarly();
        kinds();
        votes();
        allIn();
    }

    private void fault(String text, int place) {
        Due.write(x, 2, text);
        is("fault of '" + text + "'", x.fault(2), place);
        is("club of '" + text + "'", x.club(2) > 0 ? NONE : STATE, place == NONE ? NONE : STATE);
    }

    private void blanks() {
        terms("A CLUB (without CHILDREN at first) is a TEXT:");
        is("count(0)", x.count(0), 0);
        fault("r0m0", NONE);
        is("count(0) of one", x.count(0), 1);

        terms("blanks (32) ahead, between, behind as many as wanted");
        fault("r0m0m0l01l10", NONE);
        fault(" r0 m0 m0 l01 l10 ", NONE);
        fault("     r0   m0  m0    l01       l10      ", NONE);
        fault(" ".repeat(56) + "r0m0", NONE);
        fault("r0m0" + " ".repeat(56), NONE);
        fault("\tr0m0", 0);
        fault("r0\nm0", 2);
        fault("r0m0\0", 4);
        fault("r0m0!", 4);
        fault("r0m0" + (char) (32 + 128), 4);

        terms("none within items.");
        fault("r 0m0", 1);
        fault("r0m 0", 3);
        fault("r0m0m0l 01", 7);
        fault("r0m0m0l0 1", 8);
    }

    private void rules() {
        terms("The first item is r (114) and the RULE (one figure 0 .. 3).");
        for (int rule = 0; rule <= 3; rule++) {
            fault("r" + rule + "m0", NONE);
            is("the RULE", x.rule(rule), rule);
        }
        fault("r4m0", 1);
        fault("r9m0", 1);
        fault("r/m0", 1);
        fault("rm0", 1);
        fault("r00m0", 2);
        fault("R0m0", 0);
        fault("q0m0", 0);
        fault("s0m0", 0);
        fault("m0r0", 0);
        fault("0rm0", 0);
    }

    private void children() {
        terms("Then CHILDREN (1 to 6; 0, 1, .. as they come): a letter, its PENCE (0 .. 9, one figure).");
        fault("r0", 2);
        fault("r0p9", NONE);
        asks("child(0, 1)", x.child(0, 1), 1, 9);
        fault("r0m0m1m2m3m4m5", NONE);
        for (int i = 0; i < 6; i++) {
            asks("child(" + i + ", 1)", x.child(i, 1), 1, i);
        }
        fault("r0m0m1m2m3m4m5m6", 14);
        fault("r0m/", 3);
        fault("r0m:", 3);
        fault("r0m10", 4);
        fault("r00", 2);
        fault("r0M0", 2);
    }

    private void pairs() {
        terms("Then who LIKES whom (12 at most)");
        String twelve = "r0m0m0m0m0l01l02l03l10l12l13l20l21l23l30l31l32";
        fault(twelve, NONE);
        for (int i = 0; i < 4; i++) {
            asks("child(" + i + ", 4)", x.child(i, 4), 1, 15 - (1 << i));
        }

        terms("l (108), two CHILDREN (one figure each, unlike; not told already in this order):");
        fault("r0m0m0l01l10", NONE);
        fault("r0m0m0m0m0m0m0l50l05", NONE);
        fault("r0m0m0L01", 6);
        fault("r0m0m0k01", 6);
        fault("r0m0m001", 6);
        fault("r0m0m0l010", 9);
        fault("r0m0m0l00", 8);
        fault("r0m0m0l01l01", 11);

        terms("the first one LIKES the second one.");
        fault("r0m0m0m0l02", NONE);
        asks("child(0, 4)", x.child(0, 4), 1, 4);
        asks("child(2, 5)", x.child(2, 5), 1, 1);
        asks("child(2, 4)", x.child(2, 4), 1, 0);
        asks("child(0, 5)", x.child(0, 5), 1, 0);
    }

    private void signsThatAreNone() {
        terms("A FAULT is the first place at which it can't go on so");
        fault("x0y0", 0);
        fault("r4x0", 1);
        fault("r0x0m0m0l00", 2);
        fault("r0m0l11 x", 5);

        terms("(a letter");
        fault("x", 0);
        fault("  x", 2);
        fault("r0x0", 2);
        fault("r0m0x0", 4);
        fault("r0m0m0l01x", 9);
        fault("r0l01", 2);
        fault("r0r0m0", 2);
        fault("r0m0r0", 4);
        fault("r0m0" + (char) ('m' + 128) + "0", 4);

        terms("a figure that is none such");
        fault("rx", 1);
        fault("r4", 1);
        fault("r0mx", 3);
        fault("r0mm0", 3);
        fault("r0m0m0lx1", 7);
        fault("r0m0m0l0x", 8);
        fault("r0m" + (char) ('0' + 128), 3);
    }

    private void childrenThatAreNot() {
        terms("a CHILD that there is not");
        fault("r0m0l1", 5);
        fault("r0m0l01", 6);
        fault("r0m0m0l20", 7);
        fault("r0m0m0l02", 8);
        fault("r0m0m0m0m0m0m0l60", 15);
        fault("r0m0m0m0m0m0m0l06", 16);
        fault("r0m0m0m0m0m0m0l09", 16);

        terms("the same twice");
        fault("r0m0l00", 6);
        fault("r0m0m0m0m0m0m0l55", 16);

        terms("a pair that is told already (at its second figure)");
        fault("r0m0m0l01l01", 11);
        fault("r0m0m0l01l10l01", 14);
        fault("r0m0m0m0l21 l12 l21", 18);
    }

    private void tooMany() {
        terms("a seventh CHILD");
        fault("r0m0m0m0m0m0m0p0", 14);
        fault("r0m0m0m0m0m0m0 s", 15);
        fault("r0m0m0m0m0m0m0m0x", 14);

        terms("a thirteenth pair");
        String twelve = "r0m0m0m0m0m0l01l02l03l10l12l13l20l21l23l30l31l32";
        fault(twelve + "l04", 48);
        fault(twelve + " l04", 49);
        fault(twelve + "l", 48);
        fault(twelve + "l01", 48);
        fault(twelve + "    ", NONE);

        terms("a CHILD behind a pair: its place");
        fault("r0m0m0l01m0", 9);
        fault("r0m0m0l01  f0 l10", 11);
        fault("r0m0m0m0m0m0m0l01m0", 17);
    }

    private void endsTooEarly() {
        terms("the TEXT's size, if its end comes too early");
        fault("r", 1);
        fault("  r", 3);
        fault("r0m", 3);
        fault("r0m0p", 5);
        fault("r0m0m0l", 7);
        fault("r0m0m0l0", 8);
        fault("r0m0m0l01l1", 11);
        fault(" ".repeat(59) + "r", 60);

        terms("or there is no CHILD");
        fault("r0", 2);
        fault("r0   ", 5);
        fault("r0" + " ".repeat(58), 60);

        terms("or there are blanks alone).");
        fault("", 0);
        fault(" ", 1);
        fault(" ".repeat(60), 60);
    }

    private void kinds() {
        terms("KINDS of CHILDREN and letters: 0 MEMBER (m, 109)");
        kind(109, 0);
        terms("1 PRESIDENT (p, 112; a MEMBER)");
        kind(112, 1);
        terms("2 GUARD (g, 103; a MEMBER)");
        kind(103, 2);
        terms("3 TREASURER (t, 116; a MEMBER)");
        kind(116, 3);
        terms("4 FOUNDER (f, 102; a PRESIDENT)");
        kind(102, 4);
        is("mark as a PRESIDENT", x.mark(0, 1), 2);
        terms("5 SISTER (s, 115; a MEMBER).");
        kind(115, 5);
    }

    private void kind(int letter, int kind) {
        fault("r0" + (char) letter + "0", NONE);
        asks("child(0, 0)", x.child(0, 0), 1, kind);
        for (int other = 1; other <= 5; other++) {
            boolean is = other == kind || other == 1 && kind == 4;
            is("mark(0, " + other + ")", x.mark(0, other) == FINDING ? 0 : 1, is ? 1 : 0);
        }
    }

    private void votesOf(String child, int votes) {
        club("r0m0" + child);
        asks("VOTES of " + child, x.child(1, 3), 1, votes);
    }

    private void votes() {
        terms("VOTES of a CHILD are 1");
        votesOf("m0", 1);
        votesOf("m9", 1);
        votesOf("g9", 1);
        terms("of a PRESIDENT 2");
        votesOf("p0", 2);
        votesOf("p9", 2);
        terms("of a FOUNDER 3");
        votesOf("f0", 3);
        votesOf("f9", 3);
        terms("of a TREASURER 1 and 1 more if it has 5 PENCE or more");
        votesOf("t0", 1);
        votesOf("t4", 1);
        votesOf("t6", 2);
        votesOf("t9", 2);
        votesOf("t5", 2);
        x.fee();
        asks("VOTES of t5 behind a FEE", x.child(1, 3), 1, 1);
        x.undo(0);
        asks("VOTES of t5, the FEE undone", x.child(1, 3), 1, 2);
        terms("of a SISTER 0.");
        votesOf("s0", 0);
        votesOf("s9", 0);
    }

    private void allIn() {
        terms("All are IN at first.");
        for (int children = 1; children <= 6; children++) {
            fault("r0m0s0f0g0t0p0".substring(0, 2 + 2 * children), NONE);
            is("who is IN of " + children, x.count(1), (1 << children) - 1);
        }
    }
}
