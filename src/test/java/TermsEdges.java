/** Terms: what is refused and in which order, findings, numbers that are told, rows and texts. */
final class TermsEdges extends Edges {
    @Override
    void all() {
        uses();
        refusals();
        order();
        refusedChangesNothing();
        findings();
        parts();
        sets();
        rowsAndTexts();
    }

    private void uses() {
        says("What it is", "An object is used for at most 512 calls after it has been made");
        for (int call = 1; call <= 511; call++) {
            x.row(call % 6, call % 41);
        }
        is("the 512th call", x.count(6), 6);
    }

    private void refusals() {
        terms("BAD -1 (a number that is none, or not as told)");
        is("BAD", BAD, -1);
        refuses("tear(6)", () -> x.tear(6), -1);
        refuses("lots(1, 0)", () -> x.lots(1, 0), -1);

        terms("FULL -2");
        is("FULL", FULL, -2);
        club("r0m0");
        deeds(40);
        refuses("fee()", () -> x.fee(), -2);

        terms("STATE -4 (not now)");
        is("STATE", STATE, -4);
        refuses("fee()", () -> x.fee(), -4);
        club("r0m0");
        is("fee() of a club", x.fee(), 0);

        terms("SPENT -6 (more than told)");
        is("SPENT", NobodyJoins.SPENT, -6);

        terms("FINDING -3 (finding() tells which)");
        is("FINDING", FINDING, -3);
        is("tear(0)", x.tear(0), -3);
        is("finding()", x.finding(), NOTHING);

        terms("NONE -9");
        is("NONE", NONE, -9);
        club("r0m0");
        is("fault(0)", x.fault(0), -9);
    }

    private void order() {
        terms("Refused is, the first of these that fits, in this order:");
        refuses("longest(6) without CHILDREN: BAD ahead of STATE", () -> x.longest(6), BAD);
        refuses("row(6, -1): BAD ahead of FINDING", () -> x.row(6, -1), BAD);
        refuses("run(0) without CHILDREN, row: STATE ahead of FINDING", () -> x.run(0), STATE);
        club("r0m0m0");
        deeds(40);
        refuses("grudge(0, 0) behind 40: BAD ahead of FULL", () -> x.grudge(0, 0), BAD);

        terms("unless a call says so otherwise.");
        refuses("club(0) without a text", () -> x.club(4), BAD);
        finds("club(0) without a text: STATE behind NOTHING", () -> x.club(0), NOTHING);
        club("r2m0m0m0l10");
        deeds(40);
        refuses("oust(0) behind 40: FULL last", () -> x.oust(0), STATE);
    }

    private void refusedChangesNothing() {
        terms("What is refused changes nothing but finding(), findings().");
        club("r0p5m3t5l10");
        row(3, 4, 5);
        x.keep(1);
        x.fee();
        x.power(0);
        x.share(0);
        refuses("BAD", () -> x.copy(3, 0, 6, 0, 1), BAD);
        refuses("STATE", () -> x.oust(0), STATE);
        refuses("STATE of a rule", () -> x.rule(1), STATE);
        finds("BEYOND", () -> x.copy(3, 1, 3, 0, 2), BEYOND);
        finds("NOTHING", () -> x.on(0), NOTHING);
        deeds(39);
        refuses("FULL", () -> x.grudge(0, 1), FULL);
        refuses("FULL of lots", () -> x.lots(1, 1), FULL);
    }

    private void findings() {
        terms("FINDINGS: 1 NOTHING (a ROW, a TEXT, a kept CLUB that is missing)");
        finds("at of a missing ROW", () -> x.at(0, 0), 1);
        finds("put of a missing TEXT", () -> x.put(0, 0, 0), 1);
        finds("on of a missing kept CLUB", () -> x.on(0), 1);

        terms("2 BEYOND (a place that there is not)");
        x.row(0, 1);
        x.text(0, 1);
        finds("at(0, 1)", () -> x.at(0, 1), 2);
        finds("put(0, 1, 0)", () -> x.put(0, 1, 0), 2);

        terms("3 UNLIKE (a CHILD of another KIND; a number that is none)");
        club("r0m0");
        row(0, 1);
        finds("mark(0, 1) of a MEMBER", () -> x.mark(0, 1), 3);
        finds("run of CHILD 1 of one", () -> x.run(0), 3);

        terms("4 NOUGHT (shared among none)");
        x.row(0, 0);
        finds("mean of none", () -> x.mean(0), 4);

        terms("5 SIZE (fewer than none; not as many as due)");
        finds("row(0, -1)", () -> x.row(0, -1), 5);
        club("r0m0");
        row(0, 1, 1, 1);
        finds("told of one and a half", () -> x.told(0), 5);
    }

    private void parts() {
        terms("Chances, parts are told by upper(), lower(), in lowest terms, the lower number above 0 (0 by 1).");
        club("r2m0m0");
        x.oust(1);
        x.grudge(0, 1);
        part("odds(0), none", x.odds(0), 0, 1);
        part("odds(12), all", x.odds(12), 1, 1);
        part("odds(6), a half", x.odds(6), 1, 2);
        part("odds(8), two thirds", x.odds(8), 2, 3);
        club("r0s0m0m0m0");
        part("power(0), none", x.power(0), 0, 1);
        part("power(1), a third", x.power(1), 1, 3);
    }

    private void sets() {
        terms("Sets (of CHILDREN) are told by bits.");
        club("r0m0m0m0m0m0m0l50");
        is("count(1) of all six", x.count(1), 63);
        asks("child(0, 5), the last one", x.child(0, 5), 1, 32);
        asks("child(5, 4), the first one", x.child(5, 4), 1, 1);
    }

    private void rowsAndTexts() {
        terms("ROWS 0 .. 5 are rows of 0 to 40 ints");
        is("row(0, 0)", x.row(0, 0), 0);
        is("row(5, 40)", x.row(5, 40), 40);
        asks("lay at the last place", x.lay(5, 39, MIN), 1, 0);
        asks("an int as low as can be", x.lay(5, 39, MAX), 1, MIN);
        asks("an int as high as can be", x.at(5, 39), 1, MAX);
        refuses("row(-1, 0)", () -> x.row(-1, 0), BAD);
        refuses("row(6, 0)", () -> x.row(6, 0), BAD);
        refuses("row(5, 41)", () -> x.row(5, 41), BAD);

        terms("TEXTS 0 .. 3 rows of 0 to 60 bytes");
        is("text(0, 0)", x.text(0, 0), 0);
        is("text(3, 60)", x.text(3, 60), 60);
        is("put at the last place", x.put(3, 59, 1), 1032);
        refuses("text(-1, 0)", () -> x.text(-1, 0), BAD);
        refuses("text(4, 0)", () -> x.text(4, 0), BAD);
        refuses("text(3, 61)", () -> x.text(3, 61), BAD);

        terms("or missing (at first).");
        for (int r = 0; r < 6; r++) {
            int row = r;
            finds("at(" + r + ", 0)", () -> x.at(row, 0), NOTHING);
        }
        for (int t = 0; t < 4; t++) {
            int text = t;
            finds("fault(" + t + ")", () -> x.fault(text), NOTHING);
        }
    }
}
