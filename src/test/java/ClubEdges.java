/** Promises 10 to 14: fault, club, child, mark, rule. */
final class ClubEdges extends Edges {
    @Override
    void all() {
        fault();
        club();
        clubRefused();
        child();
        mark();
        markRefused();
        rule();
    }

    private void fault() {
        says(10, "A FAULT of a TEXT");
        Due.write(x, 3, "r0m0x");
        is("fault(3)", x.fault(3), 4);
        Due.write(x, 3, "");
        is("fault(3) of none", x.fault(3), 0);
        is("it makes no CLUB", x.count(0), 0);

        says(10, "NONE: there is none.");
        Due.write(x, 3, "r0m0");
        is("fault(3)", x.fault(3), NONE);
        is("it makes no CLUB", x.count(0), 0);

        says(10, "BAD");
        refuses("fault(-1)", () -> x.fault(-1), BAD);
        refuses("fault(4)", () -> x.fault(4), BAD);

        says(10, "NOTHING.");
        finds("fault(0)", () -> x.fault(0), NOTHING);
        finds("fault(3)", () -> x.fault(3), NOTHING);
    }

    private void club() {
        says(11, "A CLUB by a TEXT");
        Due.write(x, 3, "r2p1s7l10");
        is("club(3)", x.club(3), 2);
        is("VOTES", x.count(4), 2);
        is("RULE", x.rule(0), 2);
        asks("child(1, 1)", x.child(1, 1), 1, 7);
        asks("child(1, 4)", x.child(1, 4), 1, 1);
        x.put(3, 2, 'f');
        is("VOTES, the TEXT being another one then", x.count(4), 2);

        says(11, "(anew: all IN, no DEEDS; kept CLUBS go): how many CHILDREN.");
        club("r2m5m5m5m5m5m5l01l12");
        x.fee();
        x.oust(5);
        for (int k = 0; k < 3; k++) {
            x.keep(k);
        }
        Due.write(x, 1, "r1m9m9m9");
        is("club(1)", x.club(1), 3);
        is("all IN", x.count(1), 7);
        is("TIN", x.count(2), 0);
        is("no DEEDS", x.count(3), 0);
        is("undo(0)", x.undo(0), 0);
        is("no kept CLUBS", x.count(8), 0);
        for (int k = 0; k < 3; k++) {
            int place = k;
            finds("on(" + k + ")", () -> x.on(place), NOTHING);
        }
        asks("PENCE", x.child(0, 1), 1, 9);
        asks("nobody LIKES 1", x.child(1, 5), 1, 0);
        is("RULE", x.rule(1), 1);
        is("club(0) again", x.club(0), 6);
        asks("0 LIKES 1", x.child(1, 5), 1, 1);
    }

    private void clubRefused() {
        says(11, "BAD");
        refuses("club(-1)", () -> x.club(-1), BAD);
        refuses("club(4)", () -> x.club(4), BAD);

        says(11, "NOTHING");
        club("r1m3p4");
        finds("club(3)", () -> x.club(3), NOTHING);

        says(11, "STATE: a FAULT.");
        club("r1m3p4l01");
        x.fee();
        x.keep(2);
        Due.write(x, 1, "r0m0m0m0l012");
        refuses("club(1)", () -> x.club(1), STATE);
        x.text(1, 0);
        refuses("club(1) of none", () -> x.club(1), STATE);
        is("on(2)", x.on(2), 1);

        says(11, "(STATE behind NOTHING.)");
        x.text(0, 0);
        refuses("club(0)", () -> x.club(0), STATE);
        finds("club(1)", () -> x.club(1), NOTHING);
    }

    private void child() {
        says(12, "Of a CHILD: 0 the KIND");
        club("r0m0p0g0t0f0s0");
        for (int i = 0; i < 6; i++) {
            asks("child(" + i + ", 0)", x.child(i, 0), 1, i);
        }

        says(12, "1 PENCE");
        club("r0m0m9");
        asks("child(0, 1)", x.child(0, 1), 1, 0);
        asks("child(1, 1)", x.child(1, 1), 1, 9);
        x.fee();
        asks("child(0, 1) behind a FEE", x.child(0, 1), 1, 0);
        asks("child(1, 1) behind a FEE", x.child(1, 1), 1, 8);

        says(12, "2 whether it is IN (1, 0)");
        club("r2m0m0");
        asks("child(1, 2)", x.child(1, 2), 1, 1);
        x.oust(1);
        asks("child(1, 2), who is out", x.child(1, 2), 1, 0);
        asks("child(0, 2)", x.child(0, 2), 1, 1);

        says(12, "3 VOTES");
        club("r2f0m0t4t5s9");
        int[] votes = {3, 1, 1, 2, 0};
        for (int i = 0; i < 5; i++) {
            asks("child(" + i + ", 3)", x.child(i, 3), 1, votes[i]);
        }
        x.oust(0);
        asks("child(0, 3), who is out", x.child(0, 3), 1, 3);

        says(12, "4 whom it LIKES (bits)");
        club("r2m0m0m0m0m0m0l01l02l03l04l05");
        asks("child(0, 4)", x.child(0, 4), 1, 62);
        asks("child(1, 4)", x.child(1, 4), 1, 0);
        x.oust(0);
        x.oust(5);
        asks("child(0, 4), it and one of them being out", x.child(0, 4), 1, 62);

        says(12, "5 who LIKES it (bits), told by asked(): 1.");
        club("r2m0m0m0m0m0m0l50l40l30l20l10");
        asks("child(0, 5)", x.child(0, 5), 1, 62);
        asks("child(1, 5)", x.child(1, 5), 1, 0);
        x.oust(5);
        asks("child(0, 5), one of them being out", x.child(0, 5), 1, 62);

        says(12, "BAD.");
        refuses("child(0, 0) of none", () -> x.child(0, 0), BAD);
        club("r0m0m0");
        refuses("child(-1, 0)", () -> x.child(-1, 0), BAD);
        refuses("child(2, 0)", () -> x.child(2, 0), BAD);
        refuses("child(MAX, 0)", () -> x.child(MAX, 0), BAD);
        refuses("child(0, -1)", () -> x.child(0, -1), BAD);
        refuses("child(0, 6)", () -> x.child(0, 6), BAD);
    }

    private void mark() {
        says(13, "What a CHILD that IS of a KIND tells: a PRESIDENT (FOUNDER, too) how many more VOTES it has than a MEMBER");
        club("r0p0f0");
        is("mark(0, 1)", x.mark(0, 1), 1);
        is("mark(1, 1)", x.mark(1, 1), 2);

        says(13, "a GUARD how many others that are IN it LIKES");
        club("r2g0m0m0m0l01l02l10l20");
        is("mark(0, 2)", x.mark(0, 2), 2);
        is("oust(3)", x.oust(3), 3);
        is("mark(0, 2), 3 being out", x.mark(0, 2), 2);
        x.grudge(0, 1);
        is("oust(1)", x.oust(1), 2);
        x.grudge(0, 1);
        is("mark(0, 2), 1 being out", x.mark(0, 2), 1);
        club("r0g0");
        is("mark(0, 2) of one alone", x.mark(0, 2), 0);

        says(13, "a TREASURER how many PENCE it lacks to 5 (0 at least)");
        int[] lacks = {5, 4, 3, 2, 1, 0, 0, 0, 0, 0};
        for (int pence = 0; pence <= 9; pence++) {
            club("r0t" + pence);
            is("mark(0, 3) of t" + pence, x.mark(0, 3), lacks[pence]);
        }

        says(13, "a FOUNDER how many that are IN do not LIKE it (itself aside)");
        club("r2f0m0m0m0l10");
        is("mark(0, 4)", x.mark(0, 4), 2);
        is("oust(3)", x.oust(3), 3);
        is("mark(0, 4), one being out who does not", x.mark(0, 4), 1);
        is("oust(1)", x.oust(1), 2);
        is("mark(0, 4), one being out who does", x.mark(0, 4), 1);
        is("oust(0)", x.oust(0), 1);
        is("mark(0, 4), being out itself", x.mark(0, 4), 1);
        club("r0f0");
        is("mark(0, 4) of one alone", x.mark(0, 4), 0);

        says(13, "a SISTER how many that are IN LIKE it.");
        club("r2s0m0m0m0l10l20");
        is("mark(0, 5)", x.mark(0, 5), 2);
        is("oust(3)", x.oust(3), 3);
        is("mark(0, 5), one being out who does not", x.mark(0, 5), 2);
        is("oust(2)", x.oust(2), 2);
        is("mark(0, 5), one being out who does", x.mark(0, 5), 1);
        club("r0s0");
        is("mark(0, 5) of one alone", x.mark(0, 5), 0);
    }

    private void markRefused() {
        says(13, "BAD: also KIND 0");
        refuses("mark(0, 1) of none", () -> x.mark(0, 1), BAD);
        club("r0m0p0");
        refuses("mark(0, 0) of a MEMBER", () -> x.mark(0, 0), BAD);
        refuses("mark(1, 0) of a PRESIDENT", () -> x.mark(1, 0), BAD);
        refuses("mark(1, -1)", () -> x.mark(1, -1), BAD);
        refuses("mark(1, 6)", () -> x.mark(1, 6), BAD);
        refuses("mark(2, 1)", () -> x.mark(2, 1), BAD);
        refuses("mark(-1, 1)", () -> x.mark(-1, 1), BAD);

        says(13, "UNLIKE.");
        club("r0m0p0g0t0f0s0");
        for (int i = 0; i < 6; i++) {
            for (int kind = 1; kind <= 5; kind++) {
                int child = i;
                int of = kind;
                if (i != kind && !(i == 4 && kind == 1)) {
                    club("r0m0p0g0t0f0s0");
                    finds("mark(" + i + ", " + kind + ")", () -> x.mark(child, of), UNLIKE);
                }
            }
        }
    }

    private void rule() {
        says(14, "The RULE is v (0 .. 3): what it was.");
        club("r3m0p0");
        is("rule(0)", x.rule(0), 3);
        is("can(), 0 by RULE 0", x.can(), 1);
        is("rule(3)", x.rule(3), 0);
        is("rule(2)", x.rule(2), 3);
        is("can(), both by RULE 2", x.can(), 3);
        is("rule(1)", x.rule(1), 2);
        is("rule(1) again", x.rule(1), 1);

        says(14, "BAD");
        refuses("rule(-1) without CHILDREN", () -> x.rule(-1), BAD);
        club("r3m0");
        refuses("rule(4)", () -> x.rule(4), BAD);
        refuses("rule(-1)", () -> x.rule(-1), BAD);
        x.fee();
        refuses("rule(4) behind a DEED", () -> x.rule(4), BAD);

        says(14, "STATE: no CHILDREN, or there are DEEDS.");
        refuses("rule(0) without CHILDREN", () -> x.rule(0), STATE);
        club("r3m0");
        x.fee();
        refuses("rule(0) behind a DEED", () -> x.rule(0), STATE);
        refuses("rule(3), as it is, behind a DEED", () -> x.rule(3), STATE);
        x.undo(0);
        is("rule(0), the DEED undone", x.rule(0), 3);
    }
}
