/** Promises 22 to 25: yes, can, swing, rules. */
final class VoteEdges extends Edges {
    @Override
    void all() {
        yes();
        can();
        swing();
        rules();
    }

    private void yes() {
        says(22, "YES for one that is IN being PUT OUT");
        club("r2f0p0t5m0s0g0l30");
        is("yes(0), 3 LIKES it", x.yes(0), 5);
        is("yes(1)", x.yes(1), 7);
        is("yes(4), who has none itself", x.yes(4), 9);
        x.fee();
        is("yes(1), the TREASURER having 4 PENCE", x.yes(1), 6);
        is("oust(5)", x.oust(5), 5);
        is("yes(1), the GUARD being out", x.yes(1), 5);
        club("r0m0");
        is("yes(0) alone", x.yes(0), 0);

        says(22, "NO by asked().");
        club("r2f0p0t5m0s0g0l30");
        asks("yes(0), its own and 3's", x.yes(0), 5, 4);
        asks("yes(4), who has none itself", x.yes(4), 9, 0);
        is("oust(3)", x.oust(3), 5);
        asks("yes(0), 3 being out", x.yes(0), 5, 3);

        says(22, "BAD");
        refuses("yes(0) without CHILDREN", () -> x.yes(0), BAD);
        club("r0m0m0");
        refuses("yes(-1)", () -> x.yes(-1), BAD);
        refuses("yes(2)", () -> x.yes(2), BAD);

        says(22, "STATE: it is not IN.");
        club("r2m0m0");
        x.oust(1);
        refuses("yes(1)", () -> x.yes(1), STATE);
        asks("yes(0)", x.yes(0), 0, 1);
    }

    private void can() {
        says(23, "Who can be PUT OUT now (bits)");
        is("can() without CHILDREN", x.can(), 0);
        club("r2m0m0m0m0m0m0");
        is("can(), all six", x.can(), 63);
        x.oust(5);
        is("can(), who is out aside", x.can(), 31);
        x.grudge(5, 0);
        is("can(), liked by one who is out", x.can(), 31);
        x.grudge(4, 0);
        is("can(), liked by one who is IN", x.can(), 30);
        club("r0m0");
        is("can() alone", x.can(), 0);

        says(23, "who may JOIN by asked().");
        row(0, 5);
        x.at(0, 0);
        asks("can() without CHILDREN", x.can(), 0, 0);
        club("r2m0m0m0m0");
        asks("can(), all being IN", x.can(), 15, 0);
        x.oust(0);
        x.oust(3);
        asks("can(), two being out whom nobody LIKES", x.can(), 6, 0);
        x.grudge(1, 0);
        x.grudge(2, 0);
        asks("can(), one of them liked by both", x.can(), 6, 1);
        x.grudge(1, 3);
        x.grudge(2, 3);
        asks("can(), both liked by both", x.can(), 6, 9);
        x.grudge(2, 3);
        asks("can(), one of them by one alone", x.can(), 6, 1);
    }

    private void swing() {
        says(24, "Those that are IN, others than one (bits), each of whom alone, if it LIKED that one as it does not");
        club("r0m0m0m0m0");
        is("swing(0): three to one", x.swing(0), 14);
        is("swing(3): three to one", x.swing(3), 7);
        is("oust(3)", x.oust(3), 3);
        is("swing(0): two to one, 3 aside", x.swing(0), 6);
        club("r0m0m0m0m0m0m0");
        is("swing(0): five to one", x.swing(0), 0);
        club("r0m0p0m0p0m0");
        is("swing(0): six to one", x.swing(0), 0);
        club("r0m0p0m0m0");
        is("swing(0): four to one, 2 of them a PRESIDENT's", x.swing(0), 2);
        club("r0m0p0p0p0g0");
        is("swing(0): seven to one, a GUARD among them", x.swing(0), 16);
        club("r3m0p0p0p0s0");
        is("swing(0): six to one, a SISTER among them", x.swing(0), 16);

        says(24, "or did not as it does");
        club("r0m0m0m0m0l10l20l30");
        is("swing(0): none to four", x.swing(0), 0);
        club("r0m0m0m0m0l10l20");
        is("swing(0): one to three", x.swing(0), 0);
        club("r0m0m0m0m0l10");
        is("swing(0): two to two", x.swing(0), 2);
        club("r0m0m0m0m0m0l10l20");
        is("swing(0): two to three", x.swing(0), 6);
        club("r0m0m0m0m0g0l40");
        is("swing(0): three to two, the GUARD alone holds it", x.swing(0), 16);

        says(24, "would make that one PUT OUT as it is not, or not as it is.");
        club("r2m0m0m0m0");
        is("swing(0): each one's liking keeps it", x.swing(0), 14);
        club("r2m0m0m0m0l30");
        is("swing(0): but for one it would go", x.swing(0), 8);
        club("r2m0m0m0m0l30l20");
        is("swing(0): none alone", x.swing(0), 0);
        club("r2m0m0s0");
        is("swing(0): a SISTER has no VOTES", x.swing(0), 2);
        long before = x.digest();
        x.swing(1);
        is("nothing is changed by asking", x.digest(), before);
        club("r0m0");
        is("swing(0) alone", x.swing(0), 0);

        says(24, "BAD");
        refuses("swing(0) without CHILDREN", () -> x.swing(0), BAD);
        club("r0m0m0");
        refuses("swing(-1)", () -> x.swing(-1), BAD);
        refuses("swing(2)", () -> x.swing(2), BAD);

        says(24, "STATE: that one is not IN.");
        club("r2m0m0");
        x.oust(0);
        refuses("swing(0)", () -> x.swing(0), STATE);
    }

    private void rules() {
        says(25, "RULES (bits) by which one that is IN can be PUT OUT now.");
        club("r2m0m0m0");
        is("rules(0), all", x.rules(0), 15);
        club("r2m0");
        is("rules(0) alone, none", x.rules(0), 0);
        club("r3m0m0");
        is("rules(0): one to one", x.rules(0), 4);
        club("r2m0m0m0m0m0l10");
        is("rules(0): three to two", x.rules(0), 9);
        club("r2m0m0p0p0l10");
        is("rules(0): four to two", x.rules(0), 11);
        club("r0m0m0m0s0l30");
        is("rules(0): a SISTER LIKES it", x.rules(0), 7);
        club("r0f0p0p0");
        is("rules(0): a FOUNDER, four to three", x.rules(0), 13);
        club("r0f0p0p0p0p0m0l50");
        is("rules(0): a FOUNDER whom one LIKES", x.rules(0), 0);
        club("r0m0p0p0p0g0l40");
        is("rules(0): a GUARD LIKES it", x.rules(0), 0);
        is("oust(4)", x.oust(4), 4);
        is("rules(0): the GUARD being out", x.rules(0), 15);
        is("the RULE is left", x.undo(0) + x.rule(0), 1);

        says(25, "BAD");
        refuses("rules(0) without CHILDREN", () -> x.rules(0), BAD);
        club("r0m0m0");
        refuses("rules(-1)", () -> x.rules(-1), BAD);
        refuses("rules(2)", () -> x.rules(2), BAD);

        says(25, "STATE: it is not IN.");
        club("r2m0m0");
        x.oust(0);
        refuses("rules(0)", () -> x.rules(0), STATE);
    }
}
