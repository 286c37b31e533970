/** Terms: who is put out by which rule, who may join, deeds, orders. */
final class RuleEdges extends Edges {
    @Override
    void all() {
        yesAndNo();
        byMore();
        byTwice();
        byAllOthers();
        bySisters();
        guards();
        founders();
        joining();
        deedsThatAreDone();
        orders();
    }

    private void yesAndNo() {
        terms("Whether one that is IN is PUT OUT by those IN: YES are all VOTES of those who do not LIKE it, itself aside");
        club("r0p0m0t5f0s0l10");
        is("yes(0): 2 of the TREASURER, 3 of the FOUNDER", x.yes(0), 5);
        is("yes(4), who has none: all", x.yes(4), 8);
        is("oust(3)", x.oust(3), 4);
        is("yes(0), the FOUNDER being out", x.yes(0), 2);
        club("r0f0");
        is("yes(0) alone", x.yes(0), 0);

        terms("NO are all others' (its own, too).");
        club("r0p0m0t5f0s0l10");
        asks("yes(0)", x.yes(0), 5, 3);
        is("oust(3)", x.oust(3), 4);
        x.grudge(3, 0);
        asks("yes(0), liked by the FOUNDER who is out", x.yes(0), 2, 3);
        club("r0f0");
        asks("yes(0) alone", x.yes(0), 0, 3);
        club("r0s0");
        asks("yes(0) of a SISTER alone", x.yes(0), 0, 0);
    }

    private void out(String text, int i, boolean is) {
        club(text);
        is(text + ": " + i + " is PUT OUT", x.can() >> i & 1, is ? 1 : 0);
        is(text + ": " + i + " is not to be", x.oust(i) == STATE ? 0 : 1, is ? 1 : 0);
    }

    private void byMore() {
        terms("By RULE 0 it is, if YES are more than NO");
        out("r0m0m0", 0, false);
        out("r0m0p0", 0, true);
        out("r0m0m0m0m0l10", 0, false);
        out("r0m0m0m0m0m0l10", 0, true);
        out("r0s0s0", 0, false);
        out("r0s0m0", 0, true);
    }

    private void byTwice() {
        terms("by 1, if YES are twice NO at least");
        out("r1m0m0", 0, false);
        out("r1m0p0", 0, true);
        out("r1m0f0", 0, true);
        out("r1m0m0p0m0l10", 0, false);
        out("r1m0m0p0p0l10", 0, true);

        terms("and some");
        out("r1s0s0", 0, false);
        out("r1s0s0s0s0", 3, false);
        out("r1s0m0l10", 0, false);
        out("r1s0m0", 0, true);
    }

    private void byAllOthers() {
        terms("by 2, if NO are its own VOTES alone");
        out("r2p0m0", 0, true);
        out("r2p0m0m0l10", 0, false);
        out("r2p0s0m0l10", 0, true);
        out("r2s0m0m0l10", 0, false);
        out("r2s0s0m0l10", 0, true);

        terms("and YES some;");
        out("r2m0", 0, false);
        out("r2m0s0", 0, false);
        out("r2s0s0", 1, false);
        out("r2m0s0m0", 0, true);
    }

    private void bySisters() {
        terms("by 3, if it is by 0");
        out("r3m0m0s0", 0, false);
        out("r3m0p0s0", 0, true);

        terms("and a SISTER that is IN (another one) does not LIKE it");
        out("r3m0m0m0s0l30", 0, false);
        out("r3m0m0m0s0s0l30l40", 0, false);
        out("r3m0m0m0s0s0l30", 0, true);
        out("r3m0m0m0s0s0l40", 0, true);
        out("r3s0m0m0s0l30", 0, false);
        out("r3s0m0m0m0l01", 1, false);
        out("r3s0m0m0m0", 1, true);
        club("r3m0m0m0s0s0l30");
        is("oust(4), who does not LIKE 0", x.oust(4), 4);
        refuses("oust(0), the SISTER who does not LIKE it being out", () -> x.oust(0), STATE);

        terms("or there is no other SISTER IN.");
        out("r3m0m0m0", 0, true);
        out("r3s0m0m0", 0, true);
        club("r3m0m0m0s0l30");
        refuses("oust(0), the SISTER being IN", () -> x.oust(0), STATE);
        is("oust(3)", x.oust(3), 3);
        is("oust(0), the SISTER being out", x.oust(0), 2);
    }

    private void guards() {
        terms("But not, if a GUARD that is IN, another one, LIKES it");
        for (int rule = 0; rule <= 3; rule++) {
            out("r" + rule + "m0m0g0", 0, true);
            out("r" + rule + "g0m0m0", 0, true);
        }
        for (int rule = 0; rule <= 3; rule++) {
            out("r" + rule + "s0p0p0g0l30", 0, false);
        }
        club("r0s0p0p0g0l30");
        is("oust(3)", x.oust(3), 3);
        is("oust(0), the GUARD being out", x.oust(0), 2);
        out("r0g0m0m0l01", 0, true);
        out("r0g0m0m0m0m0l01", 1, false);
        out("r0m0m0m0m0m0l01", 1, true);
    }

    private void founders() {
        terms("a FOUNDER just if it is by RULE 2, too, whichever RULE there is.");
        for (int rule = 0; rule <= 3; rule++) {
            out("r" + rule + "f0p0p0p0", 0, true);
            out("r" + rule + "f0p0p0p0p0m0l50", 0, false);
        }
        out("r0p0p0p0p0p0m0l50", 0, true);
        out("r0f0p0p0p0p0s0l50", 0, true);
        out("r2f0m0", 0, true);
        out("r0f0m0", 0, false);
        out("r1f0p0p0", 0, false);
    }

    private void joining() {
        terms("One that is not IN may JOIN, if all that are IN LIKE it");
        club("r2m0m0m0m0");
        x.oust(3);
        x.oust(2);
        x.grudge(0, 3);
        asks("can(), liked by one of two", x.can(), 3, 0);
        x.grudge(1, 3);
        asks("can(), liked by both, not by 2, who is out", x.can(), 3, 8);
        is("join(3)", x.join(3), 3);

        // One alone has no YES against it: nobody being IN does not come about.
        terms("(nobody being IN: it may).");
        for (String child : new String[] {"m0", "p0", "g0", "t9", "f0", "s0"}) {
            for (int rule = 0; rule <= 3; rule++) {
                out("r" + rule + child, 0, false);
            }
        }
    }

    private void deedsThatAreDone() {
        terms("What is done: one is PUT OUT, JOINS");
        club("r2m0m0m0l01l21l12");
        x.oust(0);
        x.grudge(1, 0);
        x.grudge(2, 0);
        is("count(1), 0 being PUT OUT", x.count(1), 6);
        x.join(0);
        is("count(1), 0 having JOINED", x.count(1), 7);
        is("four DEEDS", x.count(3), 4);

        terms("pays a FEE (all that are IN 1 PENNY each, who has one, to the TIN)");
        club("r2m0m1m2m9");
        x.oust(3);
        is("fee(), two having some", x.fee(), 2);
        is("fee(), one having some", x.fee(), 3);
        is("fee(), none having some", x.fee(), 3);
        int[] left = {0, 0, 0, 9};
        for (int i = 0; i < 4; i++) {
            asks("PENCE of " + i, x.child(i, 1), 1, left[i]);
        }
        is("a FEE that nobody pays is a DEED", x.count(3), 4);

        terms("bears a GRUDGE (LIKES one no more, or LIKES it again).");
        club("r0m0m0l01");
        is("grudge(0, 1)", x.grudge(0, 1), 0);
        asks("whom 0 LIKES", x.child(0, 4), 1, 0);
        is("grudge(0, 1) again", x.grudge(0, 1), 1);
        asks("whom 0 LIKES again", x.child(0, 4), 1, 2);

        terms("These are DEEDS (40 at most).");
        club("r0m0m0");
        deeds(39);
        is("DEED 39", x.grudge(0, 1), 1);
        is("count(3)", x.count(3), 40);
        refuses("DEED 40", () -> x.grudge(0, 1), FULL);

        terms("The TIN is empty at first.");
        is("count(2)", x.count(2), 0);
        club("r0m9m9");
        is("count(2) of a club", x.count(2), 0);
    }

    private void orders() {
        terms("An ORDER is of CHILDREN PUT OUT one behind the other, as each can be then.");
        club("r2m0m0m0l01");
        row(0, 1, 0);
        asks("run of 1, 0: 1 can't be at first", x.run(0), 0, 7);
        row(0, 0, 1);
        asks("run of 0, 1: then it can", x.run(0), 2, 4);

        terms("ORDERS go by their numbers, the first ones first.");
        club("r2m0m0m0m0");
        is("longest(0)", x.longest(0), 3);
        holds(0, 0, 1, 2);

        terms("A set STANDS STILL, if, all of it IN and nobody else, nobody is PUT OUT.");
        club("r0m0m0m0m0l01");
        asks("stands(): 4 of one, 6 of two, none of three", x.stands(), 10, 3);
        club("r2m0m0l01l10");
        asks("stands(): two who LIKE each other", x.stands(), 3, 3);
        club("r2m0m0l01");
        asks("stands(): one who LIKES the other", x.stands(), 2, 1);
    }
}
