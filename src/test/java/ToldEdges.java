/** Promises 40 to 46: asked, upper, lower, count, finding, findings, digest. */
final class ToldEdges extends Edges {
    @Override
    void all() {
        asked();
        askedNot();
        upperAndLower();
        count();
        finding();
        findings();
        digest();
    }

    /** So that what a call tells can't be what was told before. */
    private void askAhead() {
        row(5, 77);
        asks("at(5, 0) ahead", x.at(5, 0), 1, 77);
    }

    private void asked() {
        says(40, "What the latest lay(), at(), mean(), child(), yes(), can(), ways(), stands(), run(), splits(), peace(), share()");
        club("r2m3m4m5l01l02");
        row(0, 6, 9);
        askAhead();
        asks("lay(0, 1, 5)", x.lay(0, 1, 5), 1, 9);
        asks("at(0, 0)", x.at(0, 0), 1, 6);
        asks("mean(0)", x.mean(0), 1, 5);
        asks("child(1, 1)", x.child(1, 1), 1, 4);
        asks("yes(0)", x.yes(0), 2, 1);
        askAhead();
        asks("can()", x.can(), 1, 0);
        askAhead();
        asks("ways(1)", x.ways(1), 1, 1);
        askAhead();
        asks("stands(): three of one", x.stands(), 3, 1);
        row(1, 0, 1);
        askAhead();
        asks("run(1)", x.run(1), 2, 4);
        askAhead();
        asks("splits()", x.splits(), 0, NONE);
        askAhead();
        asks("peace()", x.peace(), 1, 6);
        x.fee();
        askAhead();
        asks("share(1)", x.share(1), 1, 1);
    }

    private void askedNot() {
        says(40, "that was not refused (nor NONE) told");
        club("r0m3m4m5");
        askAhead();
        int[] refused = {
            x.lay(5, 1, 3), x.lay(0, 0, 3), x.lay(6, 0, 3), x.at(5, 1), x.at(0, 0), x.at(6, 0), x.mean(6), x.mean(0),
            x.child(3, 1), x.child(0, 6), x.yes(3), x.ways(3), x.run(0), x.run(6), x.run(5), x.share(3),
        };
        for (int answer : refused) {
            is("a refused one", answer < 0 ? 1 : 0, 1);
        }
        is("asked() behind refused ones", x.asked(), 77);
        is("peace()", x.peace(), NONE);
        is("asked() behind NONE", x.asked(), 77);
        is("oust(2)", x.oust(2), 2);
        is("yes(2)", x.yes(2), STATE);
        is("share(2)", x.share(2), STATE);
        is("asked() behind STATE", x.asked(), 77);
        is("power(0), which tells by upper()", x.power(0), 1);
        is("odds(3), which tells by upper()", x.odds(3), 1);
        is("longest(4)", x.longest(4), 0);
        is("asked() behind others", x.asked(), 77);

        says(40, "0 before.");
        is("asked()", x.asked(), 0);
        club("r0m3p4");
        is("asked() of a new club", x.asked(), 0);
        refuses("child(2, 1)", () -> x.child(2, 1), BAD);
        is("asked() behind a refused one", x.asked(), 0);
    }

    private void upperAndLower() {
        says(41, "The upper number that was told last; 0 before.");
        is("upper()", x.upper(), 0);
        club("r0p0m0m0");
        is("upper() of a new club", x.upper(), 0);
        x.power(0);
        is("upper() of power(0)", x.upper(), 2);
        refuses("power(3)", () -> x.power(3), BAD);
        refuses("odds(13)", () -> x.odds(13), BAD);
        is("upper() behind refused ones", x.upper(), 2);
        row(0, 0, 1);
        x.minutes(0);
        is("upper() of minutes(0)", x.upper(), 2);
        x.odds(12);
        is("upper() of odds(12)", x.upper(), 0);
        x.ways(0);
        is("upper() of ways(0)", x.upper(), 2);
        row(0, 0);
        finds("minutes(0) of a half", () -> x.minutes(0), SIZE);

        says(42, "Its lower number; 1 before.");
        is("lower()", x.lower(), 1);
        club("r0p0m0m0");
        is("lower() of a new club", x.lower(), 1);
        x.power(0);
        is("lower() of power(0)", x.lower(), 3);
        x.power(1);
        is("lower() of power(1)", x.lower(), 6);
        refuses("power(3)", () -> x.power(3), BAD);
        is("lower() behind a refused one", x.lower(), 6);
        x.odds(12);
        is("lower() of odds(12)", x.lower(), 1);
    }

    private void count() {
        says(43, "0 CHILDREN");
        is("count(0) at first", x.count(0), 0);
        club("r2m0m0m0m0m0m0");
        x.oust(0);
        is("count(0), in or out", x.count(0), 6);

        says(43, "1 who is IN (bits)");
        is("count(1) at first", x.count(1), 0);
        club("r2m0m0m0m0m0m0");
        is("count(1)", x.count(1), 63);
        x.oust(0);
        is("count(1), 0 being out", x.count(1), 62);

        says(43, "2 PENCE in the TIN");
        is("count(2) at first", x.count(2), 0);
        club("r0m9m1");
        is("count(2)", x.count(2), 0);
        x.fee();
        x.fee();
        is("count(2) behind two FEES", x.count(2), 3);

        says(43, "3 DEEDS");
        is("count(3) at first", x.count(3), 0);
        club("r0m9m1");
        is("count(3)", x.count(3), 0);
        deeds(40);
        is("count(3), all that can be", x.count(3), 40);

        says(43, "4 VOTES of all that are IN");
        is("count(4) at first", x.count(4), 0);
        club("r2m0p0g0t5f0s0");
        is("count(4)", x.count(4), 9);
        x.oust(4);
        is("count(4), the FOUNDER being out", x.count(4), 6);
        x.fee();
        is("count(4), the TREASURER having 4 PENCE", x.count(4), 5);

        says(43, "5 PRESIDENTS (FOUNDERS, too)");
        is("count(5) at first", x.count(5), 0);
        club("r2m0g0t9s0");
        is("count(5), none", x.count(5), 0);
        club("r2p0m0f0p0");
        is("count(5)", x.count(5), 3);
        x.oust(0);
        is("count(5), in or out", x.count(5), 3);

        says(43, "6 ROWS");
        is("count(6) at first", x.count(6), 0);
        for (int r = 0; r < 6; r++) {
            x.row(r, r % 2);
            is("count(6)", x.count(6), r + 1);
        }
        x.row(5, 1);
        is("count(6), one anew", x.count(6), 6);
        x.tear(0);
        is("count(6), one torn", x.count(6), 5);

        says(43, "7 TEXTS that are there");
        is("count(7) at first", x.count(7), 0);
        for (int t = 0; t < 4; t++) {
            x.text(t, t % 2);
            is("count(7)", x.count(7), t + 1);
        }
        x.text(3, 0);
        is("count(7), one anew", x.count(7), 4);

        says(43, "8 kept CLUBS");
        is("count(8) at first", x.count(8), 0);
        club("r0m0");
        for (int k = 0; k < 3; k++) {
            x.keep(k);
            is("count(8)", x.count(8), k + 1);
        }
        x.keep(2);
        is("count(8), one anew", x.count(8), 3);
        x.on(1);
        is("count(8), one gone on from", x.count(8), 3);
        x.club(0);
        is("count(8) of a new club", x.count(8), 0);

        says(43, "BAD.");
        refuses("count(-1)", () -> x.count(-1), BAD);
        refuses("count(9)", () -> x.count(9), BAD);
        refuses("count(MAX)", () -> x.count(MAX), BAD);
    }

    private void finding() {
        says(44, "The latest FINDING (0 before any).");
        is("finding()", x.finding(), 0);
        refuses("tear(6)", () -> x.tear(6), BAD);
        refuses("fee()", () -> x.fee(), STATE);
        is("finding() behind BAD, STATE", x.finding(), 0);
        finds("tear(0)", () -> x.tear(0), NOTHING);
        finds("row(0, -1)", () -> x.row(0, -1), SIZE);
        x.row(0, 0);
        finds("mean(0)", () -> x.mean(0), NOUGHT);
        finds("at(0, 0)", () -> x.at(0, 0), BEYOND);
        refuses("tear(6)", () -> x.tear(6), BAD);
        is("finding() stays", x.finding(), BEYOND);
        club("r0m0");
        finds("mark(0, 5)", () -> x.mark(0, 5), UNLIKE);
        x.can();
        is("finding() behind what is not refused", x.finding(), UNLIKE);
    }

    private void findings() {
        says(45, "How often a FINDING (1 .. 5) was answered.");
        club("r0m0");
        for (int f = 1; f <= 5; f++) {
            is("findings(" + f + ")", x.findings(f), 0);
        }
        x.row(0, 0);
        for (int n = 1; n <= 5; n++) {
            x.row(1, -n);
        }
        for (int n = 1; n <= 4; n++) {
            x.mean(0);
        }
        for (int n = 1; n <= 3; n++) {
            x.mark(0, 1);
        }
        x.at(0, 0);
        x.lay(0, 0, 0);
        x.on(0);
        for (int f = 1; f <= 5; f++) {
            is("findings(" + f + ")", x.findings(f), f);
        }
        x.row(6, -1);
        x.oust(0);
        is("findings(5) behind BAD", x.findings(5), 5);
        x.club(0);
        is("findings(5) of a new club", x.findings(5), 5);

        says(45, "BAD.");
        refuses("findings(0)", () -> x.findings(0), BAD);
        refuses("findings(6)", () -> x.findings(6), BAD);
        refuses("findings(-1)", () -> x.findings(-1), BAD);
        refuses("findings(MAX)", () -> x.findings(MAX), BAD);
    }

    private static long digestOf(long h, int... values) {
        for (int v : values) {
            h = 31 * h + v;
        }
        return h;
    }

    private void digest() {
        says(46, "h = 17; then h = 31 h + v for each v: count() 0 to 8; the RULE");
        long rest = digestOf(17, 0, 0, 0, 0, 0, 0, 0, 0, 0, 0);
        is("digest() at first", x.digest(), digestOf(rest, -1, -1, -1, -1, -1, -1, -1, -1, -1, -1, -1, -1, -1));
        is("digest() again", x.digest(), digestOf(rest, -1, -1, -1, -1, -1, -1, -1, -1, -1, -1, -1, -1, -1));

        says(46, "of each CHILD child() 0 to 5");
        club("r3m1f3l01");
        x.text(0, 0);
        long h = digestOf(17, 2, 3, 0, 0, 4, 1, 0, 1, 0, 3);
        h = digestOf(h, 0, 1, 1, 1, 2, 0);
        h = digestOf(h, 4, 3, 1, 3, 0, 1);
        is("digest()", x.digest(), digestOf(h, -1, -1, -1, -1, -1, -1, -1, -1, -1, 0, -1, -1, -1));

        says(46, "of each kept CLUB how many DEEDS (-1: missing)");
        club("r3m0");
        x.text(0, 0);
        x.keep(0);
        x.fee();
        x.fee();
        x.keep(2);
        h = digestOf(17, 1, 1, 0, 2, 1, 0, 0, 1, 2, 3);
        h = digestOf(h, 0, 0, 1, 1, 0, 0);
        is("digest()", x.digest(), digestOf(h, 0, -1, 2, -1, -1, -1, -1, -1, -1, 0, -1, -1, -1));

        says(46, "of each ROW its size (-1: missing) and places");
        row(0, MAX, MIN);
        x.row(1, 0);
        row(5, -1);
        h = digestOf(17, 0, 0, 0, 0, 0, 0, 3, 0, 0, 0, -1, -1, -1);
        is("digest()", x.digest(), digestOf(h, 2, MAX, MIN, 0, -1, -1, -1, 1, -1, -1, -1, -1, -1));

        says(46, "of each TEXT likewise.");
        x.text(0, 2);
        x.put(0, 1, 255);
        x.text(3, 0);
        h = digestOf(17, 0, 0, 0, 0, 0, 0, 0, 2, 0, 0, -1, -1, -1, -1, -1, -1, -1, -1, -1);
        is("digest()", x.digest(), digestOf(h, 2, 32, -1, -1, -1, 0));
    }
}
