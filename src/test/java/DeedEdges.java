/** Promises 15 to 21: oust, join, fee, grudge, undo, keep, on. */
final class DeedEdges extends Edges {
    @Override
    void all() {
        oust();
        join();
        fee();
        grudge();
        undo();
        keep();
        on();
    }

    private void oust() {
        says(15, "One is PUT OUT: how many are IN then.");
        club("r2m0m0m0m0m0m0");
        for (int i = 5; i > 0; i--) {
            is("oust(" + i + ")", x.oust(i), i);
            is("who is IN", x.count(1), (1 << i) - 1);
        }
        is("DEEDS", x.count(3), 5);

        says(15, "BAD");
        refuses("oust(0) without CHILDREN", () -> x.oust(0), BAD);
        club("r2m0m0");
        refuses("oust(-1)", () -> x.oust(-1), BAD);
        refuses("oust(2)", () -> x.oust(2), BAD);

        says(15, "STATE: it is not IN, or it can't be");
        club("r2m0m0m0l01");
        is("oust(2)", x.oust(2), 2);
        refuses("oust(2), who is out", () -> x.oust(2), STATE);
        refuses("oust(1), whom 0 LIKES", () -> x.oust(1), STATE);
        is("oust(0)", x.oust(0), 1);
        refuses("oust(1) alone", () -> x.oust(1), STATE);

        says(15, "FULL: 40 DEEDS.");
        club("r2m0m0m0");
        deeds(39);
        is("oust(0) as the last one", x.oust(0), 2);
        refuses("oust(1)", () -> x.oust(1), FULL);

        says(15, "(FULL last.)");
        club("r2m0m0m0l01");
        is("oust(2)", x.oust(2), 2);
        deeds(39);
        refuses("oust(3)", () -> x.oust(3), BAD);
        refuses("oust(2), who is out", () -> x.oust(2), STATE);
        refuses("oust(1), who can't be", () -> x.oust(1), STATE);
        refuses("oust(0), who can be", () -> x.oust(0), FULL);
    }

    /** 0 is out, and liked by both that are IN, by four DEEDS. */
    private void outAndLiked() {
        club("r2m0m0m0m0");
        x.oust(3);
        x.oust(0);
        x.grudge(1, 0);
        x.grudge(2, 0);
        is("who is IN", x.count(1), 6);
    }

    private void join() {
        says(16, "One JOINS: how many are IN then.");
        outAndLiked();
        is("join(0)", x.join(0), 3);
        is("who is IN", x.count(1), 7);
        is("DEEDS", x.count(3), 5);

        says(16, "BAD");
        refuses("join(0) without CHILDREN", () -> x.join(0), BAD);
        club("r2m0m0");
        x.oust(0);
        refuses("join(-1)", () -> x.join(-1), BAD);
        refuses("join(2)", () -> x.join(2), BAD);

        says(16, "STATE: it is IN, or may not");
        outAndLiked();
        x.grudge(1, 2);
        refuses("join(2), who is IN, and liked by the other one", () -> x.join(2), STATE);
        refuses("join(3), whom none LIKES", () -> x.join(3), STATE);
        x.grudge(1, 3);
        refuses("join(3), whom one LIKES", () -> x.join(3), STATE);
        x.grudge(2, 3);
        is("join(0)", x.join(0), 3);
        refuses("join(3), whom not all LIKE now", () -> x.join(3), STATE);

        says(16, "FULL.");
        outAndLiked();
        deeds(35);
        is("join(0) as the last one", x.join(0), 3);
        outAndLiked();
        deeds(36);
        refuses("join(0)", () -> x.join(0), FULL);

        says(16, "(FULL last.)");
        outAndLiked();
        deeds(36);
        refuses("join(4)", () -> x.join(4), BAD);
        refuses("join(1), who is IN", () -> x.join(1), STATE);
        refuses("join(3), who may not", () -> x.join(3), STATE);
    }

    private void fee() {
        says(17, "A FEE: PENCE in the TIN then.");
        club("r2m1m0m9");
        is("fee()", x.fee(), 2);
        is("fee() again", x.fee(), 3);
        is("oust(2)", x.oust(2), 2);
        is("fee() of those who have none", x.fee(), 3);
        is("DEEDS", x.count(3), 4);
        club("r0m9m9m9m9m9m9");
        for (int n = 1; n <= 9; n++) {
            is("fee() of all six", x.fee(), 6 * n);
        }
        is("fee() of all, none having any", x.fee(), 54);

        says(17, "STATE: no CHILDREN");
        refuses("fee()", () -> x.fee(), STATE);

        says(17, "FULL. (FULL last.)");
        club("r0m9");
        deeds(40);
        refuses("fee()", () -> x.fee(), FULL);
        is("TIN", x.count(2), 9);
    }

    private void grudge() {
        says(18, "One LIKES another one no more, if it did, or else does: whether it does then (1, 0).");
        club("r2m0m0m0l01");
        is("grudge(0, 1)", x.grudge(0, 1), 0);
        asks("child(0, 4)", x.child(0, 4), 1, 0);
        is("grudge(0, 1) again", x.grudge(0, 1), 1);
        asks("child(0, 4) again", x.child(0, 4), 1, 2);
        asks("child(1, 4)", x.child(1, 4), 1, 0);
        is("oust(2)", x.oust(2), 2);
        is("grudge(2, 0) by one who is out", x.grudge(2, 0), 1);
        is("grudge(0, 2) to one who is out", x.grudge(0, 2), 1);
        is("DEEDS", x.count(3), 5);

        says(18, "BAD: also the same");
        refuses("grudge(0, 1) without CHILDREN", () -> x.grudge(0, 1), BAD);
        club("r0m0m0");
        refuses("grudge(0, 0)", () -> x.grudge(0, 0), BAD);
        refuses("grudge(1, 1)", () -> x.grudge(1, 1), BAD);
        refuses("grudge(-1, 0)", () -> x.grudge(-1, 0), BAD);
        refuses("grudge(2, 0)", () -> x.grudge(2, 0), BAD);
        refuses("grudge(0, -1)", () -> x.grudge(0, -1), BAD);
        refuses("grudge(0, 2)", () -> x.grudge(0, 2), BAD);

        says(18, "FULL.");
        club("r0m0m0");
        deeds(39);
        is("grudge(0, 1) as the last one", x.grudge(0, 1), 1);
        refuses("grudge(0, 1)", () -> x.grudge(0, 1), FULL);
        refuses("grudge(0, 0)", () -> x.grudge(0, 0), BAD);
    }

    private void undo() {
        says(19, "DEEDS from number n on are undone: how many.");
        is("undo(0) without CHILDREN", x.undo(0), 0);
        outAndLiked();
        is("join(0)", x.join(0), 3);
        is("undo(5), none", x.undo(5), 0);
        is("undo(4), the last one", x.undo(4), 1);
        is("who is IN, 0 not having JOINED", x.count(1), 6);
        is("undo(1), all but the first one", x.undo(1), 3);
        is("who is IN, 0 not being PUT OUT", x.count(1), 7);
        asks("who LIKES 0", x.child(0, 5), 1, 0);
        is("undo(0)", x.undo(0), 1);
        is("who is IN, all undone", x.count(1), 15);
        is("undo(0) again", x.undo(0), 0);
        club("r0m1m0t5");
        x.fee();
        x.fee();
        is("TIN", x.count(2), 3);
        is("undo(1) of a FEE", x.undo(1), 1);
        is("TIN, one FEE undone", x.count(2), 2);
        asks("PENCE of 0", x.child(0, 1), 1, 0);
        asks("PENCE of 2", x.child(2, 1), 1, 4);
        is("undo(0)", x.undo(0), 1);
        asks("PENCE of 0, who had one", x.child(0, 1), 1, 1);
        asks("PENCE of 1, who had none", x.child(1, 1), 1, 0);
        deeds(40);
        is("undo(0) of forty", x.undo(0), 40);
        club("r0m9m9m9m9m9m9");
        is("fee() of all six", x.fee(), 6);
        is("undo(0) of a FEE of all six", x.undo(0), 1);
        is("TIN, it undone", x.count(2), 0);
        for (int i = 0; i < 6; i++) {
            asks("PENCE of " + i + ", it undone", x.child(i, 1), 1, 9);
        }
        is("grudge(5, 4), the last pair", x.grudge(5, 4), 1);
        is("undo(0) of it", x.undo(0), 1);
        asks("who LIKES 4", x.child(4, 5), 1, 0);

        says(19, "BAD.");
        refuses("undo(1) without CHILDREN", () -> x.undo(1), BAD);
        refuses("undo(-1) without CHILDREN", () -> x.undo(-1), BAD);
        club("r0m0");
        deeds(2);
        refuses("undo(3)", () -> x.undo(3), BAD);
        refuses("undo(-1)", () -> x.undo(-1), BAD);
        refuses("undo(MAX)", () -> x.undo(MAX), BAD);
        refuses("undo(MIN)", () -> x.undo(MIN), BAD);
    }

    private void keep() {
        says(20, "The CLUB (RULE, who is IN, PENCE, the TIN, who LIKES whom, DEEDS) is kept in a place (0 .. 2): how many DEEDS.");
        club("r2m5m5m5l01");
        is("keep(0)", x.keep(0), 0);
        x.fee();
        x.oust(2);
        x.grudge(1, 0);
        is("keep(2)", x.keep(2), 3);
        is("keep(1)", x.keep(1), 3);
        is("kept CLUBS", x.count(8), 3);
        long kept = x.digest();
        x.undo(0);
        x.rule(1);
        x.grudge(2, 1);
        is("on(2)", x.on(2), 3);
        is("all as it was", x.digest(), kept);
        is("who is IN", x.count(1), 3);
        is("TIN", x.count(2), 3);
        asks("PENCE", x.child(0, 1), 1, 4);
        asks("who LIKES 0", x.child(0, 5), 1, 2);
        asks("who LIKES 1", x.child(1, 5), 1, 1);
        is("undo(0)", x.undo(0), 3);
        is("RULE", x.rule(0), 2);
        is("who is IN, all undone", x.count(1), 7);
        is("TIN, all undone", x.count(2), 0);

        says(20, "BAD");
        refuses("keep(-1) without CHILDREN", () -> x.keep(-1), BAD);
        club("r0m0");
        refuses("keep(-1)", () -> x.keep(-1), BAD);
        refuses("keep(3)", () -> x.keep(3), BAD);

        says(20, "STATE: no CHILDREN.");
        refuses("keep(0)", () -> x.keep(0), STATE);
        refuses("keep(2)", () -> x.keep(2), STATE);
        is("kept CLUBS", x.count(8), 0);
    }

    private void on() {
        says(21, "The CLUB is as it was kept: how many DEEDS.");
        club("r2m5m5m5");
        x.keep(0);
        is("rule(0)", x.rule(0), 2);
        x.oust(1);
        x.keep(1);
        is("on(0)", x.on(0), 0);
        is("who is IN", x.count(1), 7);
        is("no DEEDS", x.count(3), 0);
        is("RULE", x.rule(3), 2);
        is("on(0) again, the RULE having been another one", x.on(0), 0);
        is("RULE again", x.rule(2), 2);
        is("on(1)", x.on(1), 1);
        is("who is IN", x.count(1), 5);
        is("undo(0) of what was done ahead of it", x.undo(0), 1);
        is("who is IN, it undone", x.count(1), 7);
        is("on(1) again, what is kept being as it was", x.on(1), 1);
        is("who is IN again", x.count(1), 5);
        deeds(39);
        is("keep(2) of forty DEEDS", x.keep(2), 40);
        x.undo(0);
        is("on(2) of forty DEEDS", x.on(2), 40);
        refuses("a DEED more", () -> x.fee(), FULL);
        is("kept CLUBS", x.count(8), 3);

        says(21, "BAD");
        refuses("on(-1)", () -> x.on(-1), BAD);
        refuses("on(3)", () -> x.on(3), BAD);

        says(21, "NOTHING.");
        finds("on(0) without CHILDREN", () -> x.on(0), NOTHING);
        club("r0m0");
        x.keep(1);
        finds("on(0)", () -> x.on(0), NOTHING);
        finds("on(2)", () -> x.on(2), NOTHING);
    }
}
