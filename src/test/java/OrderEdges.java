/** Promises 26 to 32: longest, ways, alone, stands, run, splits, peace. */
final class OrderEdges extends Edges {
    @Override
    void all() {
        longest();
        ways();
        alone();
        stands();
        run();
        runRefused();
        splits();
        peace();
        peaceRefused();
    }

    private void longest() {
        says(26, "The first longest ORDER comes to a ROW (anew): how many.");
        club("r2m0m0m0m0m0m0");
        is("longest(0), all but one", x.longest(0), 5);
        holds(0, 0, 1, 2, 3, 4);
        club("r0m0m0");
        row(5, 7, 8, 9);
        is("longest(5), none", x.longest(5), 0);
        holds(5);
        x.rule(2);
        is("longest(5) by another RULE", x.longest(5), 1);
        x.rule(0);
        is("longest(5), none again", x.longest(5), 0);
        club("r0m0p0");
        is("longest(5), 0 alone can go", x.longest(5), 1);
        holds(5, 0);
        club("r2m0m0m0l10l01");
        is("longest(5): two who LIKE each other stay", x.longest(5), 1);
        holds(5, 2);
        club("r2m0m0m0m0l10");
        is("longest(5): 0 just behind 1", x.longest(5), 3);
        holds(5, 1, 0, 2);
        is("oust(2)", x.oust(2), 3);
        is("longest(5), 2 being out", x.longest(5), 2);
        holds(5, 1, 0);
        // If the PRESIDENT goes first, two members stay; if it stays, no member does.
        club("r0p0m0m0m0");
        row(4, 0, 1, 2);
        asks("run of 0, 1, 2", x.run(4), 2, 12);
        is("longest(4), not the first order", x.longest(4), 3);
        holds(4, 1, 2, 3);
        is("nobody is PUT OUT by asking", x.count(1), 15);

        says(26, "BAD");
        refuses("longest(-1) without CHILDREN", () -> x.longest(-1), BAD);
        club("r0m0");
        refuses("longest(-1)", () -> x.longest(-1), BAD);
        refuses("longest(6)", () -> x.longest(6), BAD);

        says(26, "STATE: no CHILDREN.");
        row(0, 4, 5);
        refuses("longest(0)", () -> x.longest(0), STATE);
        holds(0, 4, 5);
    }

    private void waysAre(int i, long all, int with) {
        part("ways(" + i + ")", x.ways(i), all, 1);
        is("ways(" + i + "), asked()", x.asked(), with);
    }

    private void ways() {
        says(27, "In how many ORDERS nobody can be PUT OUT at last, told by upper() (lower() is 1)");
        club("r0m0");
        waysAre(0, 1, 1);
        club("r2m0m0m0m0m0m0");
        waysAre(5, 720, 120);
        club("r0m0m0m0");
        waysAre(0, 3, 2);
        club("r2m0m0l01l10");
        waysAre(0, 1, 1);
        x = new NobodyJoins();
        is("alone() without CHILDREN", x.alone(), 0);
        Due.write(x, 0, "r2m0m0m0");
        x.club(0);
        waysAre(0, 6, 2);
        x.rule(0);
        waysAre(0, 3, 2);
        club("r0p0m0m0");
        x.power(0);
        is("lower() ahead", x.lower(), 3);
        waysAre(1, 2, 0);
        is("nobody is PUT OUT by asking", x.count(1), 7);

        says(27, "how many of these end with a CHILD IN by asked(): 1.");
        club("r2m0m0m0l10");
        waysAre(0, 3, 2);
        waysAre(1, 3, 0);
        waysAre(2, 3, 1);
        is("oust(2)", x.oust(2), 2);
        waysAre(0, 1, 1);
        waysAre(1, 1, 0);
        waysAre(2, 1, 0);

        says(27, "BAD.");
        refuses("ways(0) without CHILDREN", () -> x.ways(0), BAD);
        club("r0m0m0");
        refuses("ways(-1)", () -> x.ways(-1), BAD);
        refuses("ways(2)", () -> x.ways(2), BAD);
    }

    private void alone() {
        says(28, "Who can be IN alone at the end of some ORDER (bits).");
        is("alone() without CHILDREN", x.alone(), 0);
        club("r0m0");
        is("alone() of one", x.alone(), 1);
        club("r0m0m0");
        is("alone() of two by RULE 0", x.alone(), 0);
        club("r2m0m0m0m0m0m0");
        is("alone() of six by RULE 2", x.alone(), 63);
        x.oust(0);
        is("alone(), 0 being out", x.alone(), 62);
        club("r2m0m0m0l10l20");
        is("alone(): 0 is put out by nobody", x.alone(), 1);
        club("r2m0m0m0l01l10");
        is("alone(): two who LIKE each other stay", x.alone(), 0);
        is("nobody is PUT OUT by asking", x.count(1), 7);
    }

    private void stands() {
        says(29, "Sets (of all CHILDREN, one at least) that STAND STILL: how many");
        is("stands() without CHILDREN", x.stands(), 0);
        club("r2m0");
        is("stands() of one", x.stands(), 1);
        club("r2m0m0m0m0m0m0");
        is("stands() of six, by ones alone", x.stands(), 6);
        x.oust(0);
        is("stands(), one being out", x.stands(), 6);
        club("r2s0s0s0s0s0s0");
        is("stands(), nobody having VOTES", x.stands(), 63);

        says(29, "the largest by asked() (bits; the least number of as large ones; 0: none).");
        row(0, 3);
        x.at(0, 0);
        asks("stands() without CHILDREN", x.stands(), 0, 0);
        club("r2m0m0m0");
        asks("stands(): three of one", x.stands(), 3, 1);
        club("r0m0m0m0");
        asks("stands(): three of two", x.stands(), 6, 3);
        club("r2m0m0m0l12l21");
        asks("stands(): one of two", x.stands(), 4, 6);
        club("r0m0p0m0l12");
        asks("stands(): two of two", x.stands(), 5, 5);
        club("r2s0s0s0s0s0s0");
        asks("stands(): all", x.stands(), 63, 63);
    }

    private void runIs(int out, int left, int... order) {
        row(1, order);
        asks("run(1)", x.run(1), out, left);
    }

    private void run() {
        says(30, "An ORDER in a ROW (6 CHILDREN at most): how many are PUT OUT till one can't be");
        club("r2m0m0m0m0m0m0");
        runIs(0, 63);
        runIs(5, 32, 0, 1, 2, 3, 4, 5);
        runIs(5, 1, 5, 4, 3, 2, 1, 0);
        runIs(1, 62, 0, 0, 1, 2);
        runIs(2, 60, 0, 1, 0, 2, 3, 4);
        club("r2m0m0m0l01");
        runIs(0, 7, 1, 0, 2);
        runIs(2, 4, 0, 1, 2);
        x.oust(2);
        runIs(0, 3, 2, 0);

        says(30, "who is IN then by asked() (bits).");
        club("r2m0m0m0");
        runIs(1, 3, 2);
        runIs(2, 2, 2, 0);
        is("all are IN all the same", x.count(1), 7);
        is("no DEEDS", x.count(3), 0);
        x.oust(1);
        runIs(1, 4, 0);
    }

    private void runRefused() {
        says(30, "BAD");
        club("r0m0");
        refuses("run(-1)", () -> x.run(-1), BAD);
        refuses("run(6)", () -> x.run(6), BAD);

        says(30, "STATE: no CHILDREN");
        row(0, 0);
        refuses("run(0)", () -> x.run(0), STATE);

        says(30, "NOTHING");
        club("r0m0");
        finds("run(0)", () -> x.run(0), NOTHING);

        says(30, "SIZE: more than 6");
        club("r2m0m0m0m0m0m0");
        row(0, 0, 1, 2, 3, 4, 5, 0);
        finds("run of seven", () -> x.run(0), SIZE);
        x.row(1, 40);
        finds("run of forty", () -> x.run(1), SIZE);

        says(30, "UNLIKE: no CHILD.");
        club("r2m0m0m0");
        row(0, 3);
        finds("run of CHILD 3 of three", () -> x.run(0), UNLIKE);
        row(1, 0, -1);
        finds("run of CHILD -1", () -> x.run(1), UNLIKE);
        row(2, 0, 0, 1, 2, 0, MAX);
        finds("run of none behind one that can't be", () -> x.run(2), UNLIKE);

        says(30, "(In this order.)");
        refuses("run(6) without CHILDREN", () -> x.run(6), BAD);
        refuses("run(0) without CHILDREN, row", () -> x.run(0), STATE);
        row(0, 9, 9, 9, 9, 9, 9, 9);
        refuses("run(0) without CHILDREN of seven", () -> x.run(0), STATE);
        club("r0m0");
        finds("run(0) without a row", () -> x.run(0), NOTHING);
        row(0, 9, 9, 9, 9, 9, 9, 9);
        finds("run(0) of seven, none a CHILD", () -> x.run(0), SIZE);
        row(0, 9, 9, 9, 9, 9, 9);
        finds("run(0) of six, none a CHILD", () -> x.run(0), UNLIKE);
    }

    private void splits() {
        says(31, "In how many ways those that are IN part in two sets, one CHILD at least each, that both STAND STILL (without order)");
        is("splits() without CHILDREN", x.splits(), 0);
        club("r0m0");
        is("splits() of one", x.splits(), 0);
        club("r2m0m0");
        is("splits() of two", x.splits(), 1);
        club("r0m0m0m0m0");
        is("splits() of four, two and two", x.splits(), 3);
        is("oust(0)", x.oust(0), 3);
        is("splits() of three, two and one", x.splits(), 3);
        club("r2m0m0m0");
        is("splits() of three by RULE 2", x.splits(), 0);
        club("r2s0s0s0s0s0s0");
        is("splits() of six who stand in all sets", x.splits(), 31);
        is("all are IN all the same", x.count(1), 63);

        says(31, "the first by asked() (bits: the set with the least CHILD that is IN; the least number; NONE).");
        asks("splits() without CHILDREN", x.splits(), 0, NONE);
        club("r0m0");
        asks("splits() of one", x.splits(), 0, NONE);
        club("r2m0m0m0");
        asks("splits() that are none", x.splits(), 0, NONE);
        club("r0m0m0m0m0");
        asks("splits(): 3 of 3, 5, 9", x.splits(), 3, 3);
        x.oust(0);
        asks("splits(), 0 being out: 2 of 2, 6, 10", x.splits(), 3, 2);
        // Just 0 and 3, 1 and 2 LIKE each other: 9, not 6.
        club("r2m0m0m0m0l03l30l12l21");
        asks("splits() in pairs", x.splits(), 1, 9);
    }

    private void peaceIs(int grudges, int first) {
        long before = x.digest();
        asks("peace()", x.peace(), grudges, first);
        is("nothing is changed by asking", x.digest(), before);
    }

    private void peace() {
        says(32, "The fewest GRUDGES (0 .. 2) by which those that are IN STAND STILL");
        club("r0m0");
        peaceIs(0, 0);
        club("r0m0m0m0l01l12l20");
        peaceIs(0, 0);
        club("r0m0m0m0l01l12");
        peaceIs(1, 6 * 1);
        club("r0m0m0m0l01");
        peaceIs(2, 36 * 2 + 6 * 1);
        club("r0m0m0m0m0l01");
        x.oust(3);
        peaceIs(2, 36 * 2 + 6 * 1);
        club("r2m0m0m0m0m0m0");
        for (int i = 5; i > 1; i--) {
            x.oust(i);
        }
        peaceIs(2, 36 * 1 + 6 * 1);
        x.oust(1);
        peaceIs(0, 0);

        says(32, "the first by asked() (36 times that ahead, and 6 times who, and whom, 0 ahead; by rising numbers).");
        club("r0m0p0");
        peaceIs(1, 6 * 1 + 0);
        club("r0p0m0");
        peaceIs(1, 6 * 0 + 1);
        club("r0m0m0p0");
        peaceIs(2, 36 * (6 * 0 + 1) + 6 * 1 + 0);
        club("r0s0s0f0");
        peaceIs(2, 36 * (6 * 2 + 0) + 6 * 2 + 1);
        club("r2m0m0m0m0m0m0");
        for (int i = 0; i < 4; i++) {
            x.oust(i);
        }
        peaceIs(2, 36 * (6 * 4 + 5) + 6 * 5 + 4);
        club("r2m0m0m0m0m0m0l10l20l01l21l02l12");
        x.grudge(4, 3);
        x.grudge(3, 5);
        peaceIs(1, 4);
        x.grudge(3, 5);
        peaceIs(2, 36 * 4 + 5);
        // Of five each one stays whom two others LIKE: 4 lacks both.
        club("r0m0m0m0m0m0l10l20l01l21l02l12l13l23");
        is("can(), 4 alone", x.can(), 16);
        peaceIs(2, 36 * 4 + 6 * 1 + 4);
        club("r2m0m0m0m0m0m0l10l01l12l23l34l45");
        peaceIs(0, 0);
        x.grudge(4, 5);
        peaceIs(1, 5);
        x.grudge(3, 4);
        peaceIs(2, 36 * 4 + 5);
    }

    private void noPeace() {
        row(0, 44);
        x.at(0, 0);
        long before = x.digest();
        asks("peace()", x.peace(), NONE, 44);
        is("nothing is changed by asking", x.digest(), before);
        is("no FINDING", x.finding(), 0);
    }

    private void peaceRefused() {
        says(32, "NONE: by no 2.");
        club("r0m0m0m0");
        noPeace();
        x.grudge(0, 1);
        is("peace(), one of three being there", x.peace(), 2);
        // Of five PRESIDENTS each one stays whom two others LIKE; the MEMBER lacks three.
        club("r0p0p0p0p0p0m0l01l12l23l34l40l02l13l24l30l41");
        is("can(), 5 alone", x.can(), 32);
        noPeace();

        says(32, "STATE: no CHILDREN.");
        refuses("peace()", () -> x.peace(), STATE);
    }
}
