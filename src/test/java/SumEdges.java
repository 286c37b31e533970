/** Promises 33 to 39: power, share, secrets, told, minutes, odds, lots. */
final class SumEdges extends Edges {
    @Override
    void all() {
        power();
        share();
        secrets();
        told();
        toldRefused();
        minutes();
        minutesRefused();
        odds();
        lots();
        lotsByLots();
        lotsRefused();
    }

    private void power() {
        says(33, "The part of a CHILD that is IN: of all orders in which those that are IN come one by one with their VOTES, "
            + "those in which with its own there are more than half of all VOTES, and ahead of it there were not, "
            + "told by upper(), lower(): 1.");
        club("r0m0");
        part("power(0) alone", x.power(0), 1, 1);
        club("r0m0m0");
        part("power(0) of half the VOTES", x.power(0), 1, 2);
        club("r0p0m0m0");
        part("power(0) of half the VOTES, of three", x.power(0), 2, 3);
        part("power(1) of a quarter", x.power(1), 1, 6);
        club("r0f0m0m0");
        part("power(0) of more than half", x.power(0), 1, 1);
        part("power(2) of a fifth", x.power(2), 0, 1);
        club("r0m0m0m0m0m0m0");
        part("power(5) of six alike", x.power(5), 1, 6);
        club("r0f0s0s0s0s0s0");
        part("power(0), the five others having no VOTES", x.power(0), 1, 1);
        club("r0m0m0m0m0m0f0");
        part("power(5) of three in eight", x.power(5), 1, 2);
        part("power(0) of one in eight", x.power(0), 1, 10);
        club("r0s0m0");
        part("power(0) of a SISTER", x.power(0), 0, 1);
        part("power(1) beside a SISTER", x.power(1), 1, 1);
        club("r0t5m0m0");
        part("power(0) of a TREASURER", x.power(0), 2, 3);
        x.fee();
        part("power(0) of a TREASURER of 4 PENCE", x.power(0), 1, 3);
        is("oust(2)", x.oust(2), 2);
        part("power(0), one being out", x.power(0), 1, 2);

        says(33, "BAD");
        refuses("power(0) without CHILDREN", () -> x.power(0), BAD);
        club("r0m0m0");
        refuses("power(-1)", () -> x.power(-1), BAD);
        refuses("power(2)", () -> x.power(2), BAD);

        says(33, "STATE: it is not IN, or nobody has VOTES.");
        club("r2s0m0");
        is("oust(0)", x.oust(0), 1);
        refuses("power(0), who is out", () -> x.power(0), STATE);
        club("r0s0s0");
        refuses("power(0), nobody having VOTES", () -> x.power(0), STATE);
        club("r2s0s0m0s0");
        is("power(0), one having some", x.power(0), 1);
        club("r0s0");
        refuses("power(0) of a SISTER alone", () -> x.power(0), STATE);
    }

    private void share() {
        says(34, "The TIN is parted alike among those that are IN, the first ones a PENNY more, if some are over: what one gets");
        club("r2m9m9m1m0l20l10");
        is("share(0) of an empty TIN", x.share(0), 0);
        x.fee();
        int[] three = {1, 1, 1, 0};
        for (int i = 0; i < 4; i++) {
            is("share(" + i + ") of three by four", x.share(i), three[i]);
        }
        is("fee()", x.fee(), 5);
        int[] five = {2, 1, 1, 1};
        for (int i = 0; i < 4; i++) {
            is("share(" + i + ") of five by four", x.share(i), five[i]);
        }
        is("oust(0), whom 1 and 2 LIKE no more", x.grudge(1, 0) + x.grudge(2, 0) + x.oust(0), 3);
        int[] first = {0, 2, 2, 1};
        for (int i = 1; i < 4; i++) {
            is("share(" + i + ") of five by three, 0 being out", x.share(i), first[i]);
        }
        is("oust(2)", x.oust(2), 2);
        is("oust(1)", x.oust(1), 1);
        is("share(3) alone", x.share(3), 5);
        club("r0m1m1");
        x.fee();
        is("share(0), none being over", x.share(0), 1);
        is("share(1), none being over", x.share(1), 1);
        is("TIN is left", x.count(2), 2);

        says(34, "what all get who LIKE it, and are IN, by asked().");
        club("r2m9m9m1m0l20l10");
        asks("share(0) of an empty TIN", x.share(0), 0, 0);
        x.fee();
        x.fee();
        asks("share(0), 1 and 2 LIKE it", x.share(0), 2, 2);
        asks("share(1), nobody LIKES it", x.share(1), 1, 0);
        is("oust(3)", x.oust(3), 3);
        asks("share(0): two of 1, one of 2", x.share(0), 2, 3);
        x.grudge(3, 0);
        asks("share(0), liked by one who is out", x.share(0), 2, 3);
        is("oust(1)", x.oust(1), 2);
        asks("share(0), 1 being out", x.share(0), 3, 2);

        says(34, "BAD");
        refuses("share(0) without CHILDREN", () -> x.share(0), BAD);
        club("r0m0m0");
        refuses("share(-1)", () -> x.share(-1), BAD);
        refuses("share(2)", () -> x.share(2), BAD);

        says(34, "STATE: it is not IN.");
        club("r2m4m4");
        x.fee();
        x.oust(1);
        refuses("share(1)", () -> x.share(1), STATE);
    }

    private void secrets() {
        says(35, "The fewest false secrets (each told to some of those that are IN; the one of these who tells, "
            + "tells each that it knows) by which it is certain who tells.");
        club("r2m0m0m0m0m0m0");
        int[] fewest = {3, 3, 2, 2, 1, 0};
        for (int out = 0; out < 6; out++) {
            is("secrets() of " + (6 - out), x.secrets(), fewest[out]);
            x.oust(out);
        }

        says(35, "STATE: nobody is IN.");
        refuses("secrets()", () -> x.secrets(), STATE);
    }

    private void toldIs(int who, int... pairs) {
        row(3, pairs);
        is("told(3)", x.told(3), who);
    }

    private void told() {
        says(36, "Who of those that are IN can have told (bits) by a ROW of pairs (of a false secret: the set to whom it was told, "
            + "whether it got out: 1, 0).");
        club("r2m0m0m0m0m0m0");
        toldIs(63);
        toldIs(21, 21, 1);
        toldIs(42, 21, 0);
        toldIs(16, 21, 1, 7, 0, 48, 1);
        toldIs(1, 3, 1, 5, 1);
        toldIs(0, 3, 1, 3, 0);
        toldIs(63, 63, 1);
        toldIs(0, 63, 0);
        toldIs(0, 0, 1);
        toldIs(63, 0, 0);
        x.oust(0);
        toldIs(62);
        toldIs(20, 21, 1);
        toldIs(42, 21, 0);
        toldIs(0, 1, 1);
        x.row(3, 40);
        is("told of twenty pairs", x.told(3), 62);
    }

    private void toldRefused() {
        says(36, "BAD");
        club("r0m0");
        refuses("told(-1)", () -> x.told(-1), BAD);
        refuses("told(6)", () -> x.told(6), BAD);

        says(36, "STATE: no CHILDREN");
        row(0);
        refuses("told(0)", () -> x.told(0), STATE);

        says(36, "NOTHING");
        club("r0m0");
        finds("told(0)", () -> x.told(0), NOTHING);

        says(36, "SIZE: not by pairs");
        club("r0m0m0");
        row(0, 1);
        finds("told of a half", () -> x.told(0), SIZE);
        row(1, 1, 1, 1);
        finds("told of one and a half", () -> x.told(1), SIZE);

        says(36, "UNLIKE: no set, no 0, 1.");
        club("r0m0m0");
        row(0, 3, 1, 4, 1);
        finds("told to 4 of two", () -> x.told(0), UNLIKE);
        row(1, -1, 1);
        finds("told to -1", () -> x.told(1), UNLIKE);
        row(2, 3, 1, 3, 2);
        finds("got out by 2", () -> x.told(2), UNLIKE);
        row(3, 3, -1);
        finds("got out by -1", () -> x.told(3), UNLIKE);
        row(4, MIN, 0);
        finds("told to MIN", () -> x.told(4), UNLIKE);
        club("r0m0m0m0m0m0m0");
        row(0, 64, 0);
        finds("told to 64 of six", () -> x.told(0), UNLIKE);

        says(36, "(In this order.)");
        refuses("told(6) without CHILDREN", () -> x.told(6), BAD);
        refuses("told(0) without CHILDREN, row", () -> x.told(0), STATE);
        row(0, 9);
        refuses("told(0) without CHILDREN of a half", () -> x.told(0), STATE);
        club("r0m0");
        finds("told(0) without a row", () -> x.told(0), NOTHING);
        row(0, 9, 9, 9);
        finds("told(0) not by pairs, no sets", () -> x.told(0), SIZE);
        row(0, 9, 9);
        finds("told(0), no sets", () -> x.told(0), UNLIKE);
    }

    private void minutesAre(long ways, int... pairs) {
        row(3, pairs);
        part("minutes(3)", x.minutes(3), ways, 1);
    }

    private void minutes() {
        says(37, "Minutes in a ROW of pairs (a CHILD, how many YES there were for its being PUT OUT, all CHILDREN being IN, VOTES as now): "
            + "in how many ways the CHILDREN of the ROW can be LIKED by others so that all is so");
        club("r2m0m0m0m0l10");
        minutesAre(1);
        minutesAre(1, 0, 3);
        minutesAre(3, 0, 2);
        minutesAre(3, 0, 1);
        minutesAre(1, 0, 0);
        minutesAre(0, 0, 4);
        minutesAre(0, 0, -1);
        minutesAre(0, 0, MIN);
        minutesAre(9, 0, 1, 3, 2);
        minutesAre(0, 0, 1, 3, 4);
        is("oust(3)", x.oust(3), 3);
        minutesAre(1, 0, 3);
        club("r0m0t5p0s0");
        minutesAre(4, 0, 2);
        x.fee();
        minutesAre(2, 0, 2);
        minutesAre(2, 0, 3);
        club("r0m0");
        minutesAre(1, 0, 0);
        minutesAre(0, 0, 1);

        says(37, "(for each of them a set of who LIKES it; told twice it has to be both), told by upper() (lower() is 1): 1.");
        club("r0s0s0s0s0s0s0");
        minutesAre(32, 0, 0);
        minutesAre(32, 0, 0, 0, 0);
        minutesAre(0, 0, 0, 0, 1);
        minutesAre(1L << 30, 0, 0, 1, 0, 2, 0, 3, 0, 4, 0, 5, 0);
        minutesAre(1L << 25, 0, 0, 1, 0, 2, 0, 3, 0, 5, 0, 3, 0);
        club("r0p0m0m0");
        x.power(0);
        is("lower() ahead", x.lower(), 3);
        minutesAre(2, 0, 1, 0, 1);
        minutesAre(2, 0, 1, 1, 2, 0, 1);
        minutesAre(0, 0, 1, 1, 2, 0, 2);
        x.row(3, 40);
        part("minutes of twenty pairs", x.minutes(3), 1, 1);
    }

    private void minutesRefused() {
        says(37, "BAD");
        club("r0m0");
        refuses("minutes(-1)", () -> x.minutes(-1), BAD);
        refuses("minutes(6)", () -> x.minutes(6), BAD);

        says(37, "STATE: no CHILDREN");
        row(0);
        refuses("minutes(0)", () -> x.minutes(0), STATE);

        says(37, "NOTHING");
        club("r0m0");
        finds("minutes(0)", () -> x.minutes(0), NOTHING);

        says(37, "SIZE: not by pairs");
        club("r0m0m0");
        row(0, 1);
        finds("minutes of a half", () -> x.minutes(0), SIZE);
        row(1, 1, 1, 1);
        finds("minutes of one and a half", () -> x.minutes(1), SIZE);

        says(37, "UNLIKE: no CHILD.");
        club("r0m0m0");
        row(0, 0, 1, 2, 1);
        finds("minutes of CHILD 2 of two", () -> x.minutes(0), UNLIKE);
        row(1, -1, 0);
        finds("minutes of CHILD -1", () -> x.minutes(1), UNLIKE);
        row(2, 0, 99, MIN, 0);
        finds("minutes of CHILD MIN behind what can't be", () -> x.minutes(2), UNLIKE);

        says(37, "(In this order.)");
        refuses("minutes(6) without CHILDREN", () -> x.minutes(6), BAD);
        refuses("minutes(0) without CHILDREN, row", () -> x.minutes(0), STATE);
        row(0, 9);
        refuses("minutes(0) without CHILDREN of a half", () -> x.minutes(0), STATE);
        club("r0m0");
        finds("minutes(0) without a row", () -> x.minutes(0), NOTHING);
        row(0, 9, 9, 9);
        finds("minutes(0) not by pairs, no CHILD", () -> x.minutes(0), SIZE);
        row(0, 9, 9);
        finds("minutes(0), no CHILD", () -> x.minutes(0), UNLIKE);
    }

    private void odds() {
        says(38, "Chances that a secret gets out, if each that is IN tells it by p (0 .. 12) of 12 to each one not IN whom it LIKES, "
            + "each by itself, told by upper(), lower(): 1.");
        part("odds(12) without CHILDREN", x.odds(12), 0, 1);
        club("r2m0m0m0m0l01l02l10");
        part("odds(12), all being IN", x.odds(12), 0, 1);
        is("oust(3)", x.oust(3), 3);
        part("odds(12), one being out whom nobody LIKES", x.odds(12), 0, 1);
        x.grudge(3, 0);
        part("odds(12), who LIKES one that is IN", x.odds(12), 0, 1);
        x.grudge(0, 3);
        part("odds(0), one telling one", x.odds(0), 0, 1);
        part("odds(1), one telling one", x.odds(1), 1, 12);
        part("odds(11), one telling one", x.odds(11), 11, 12);
        part("odds(12), one telling one", x.odds(12), 1, 1);
        x.grudge(1, 3);
        part("odds(1), two telling one", x.odds(1), 23, 144);
        part("odds(6), two telling one", x.odds(6), 3, 4);
        club("r2m0m0m0m0m0m0");
        for (int i = 3; i < 6; i++) {
            x.oust(i);
            for (int k = 0; k < 3; k++) {
                x.grudge(k, i);
            }
        }
        part("odds(1), three telling three: beyond an int", x.odds(1), 2801832661L, 5159780352L);
        part("odds(6), three telling three", x.odds(6), 511, 512);
        part("odds(0), three telling three", x.odds(0), 0, 1);
        part("odds(12), three telling three", x.odds(12), 1, 1);

        says(38, "BAD.");
        refuses("odds(-1) without CHILDREN", () -> x.odds(-1), BAD);
        club("r0m0");
        refuses("odds(-1)", () -> x.odds(-1), BAD);
        refuses("odds(13)", () -> x.odds(13), BAD);
    }

    private void lots() {
        says(39, "n (1 .. 20) DEEDS truly by LOTS of a seed");
        club("r0m9m9m9m9m9m9");
        x.lots(1, 5);
        is("DEEDS", x.count(3), 1);
        x.lots(20, 5);
        is("DEEDS", x.count(3), 21);
        is("undo(1), which takes them back", x.undo(1), 20);
        club("r0m9m9m9m9m9m9");
        long before = x.digest();
        x.lots(20, 123456789);
        x.undo(0);
        is("all undone", x.digest(), before);

        says(39, "a number comes from the one ahead by 48271 times it modulo 2147483647, the first from the seed (1 .. 2147483646)");
        // Of seed 1 come 48271 (1 of 2, by 16 it is 3016, 0 of 2), 182605794 (0 and 0).
        club("r0m5m5");
        is("lots(2, 1): 1 LIKES 0, then a FEE", x.lots(2, 1), 2);
        asks("child(0, 5)", x.child(0, 5), 1, 2);
        is("TIN", x.count(2), 2);
        // Of seed 2147483646 come 2147435376 (0 and 1 of 2), 1964877853 (1 and 1).
        club("r0m5m5");
        is("lots(2, 2147483646): 0 LIKES 1, then a FEE", x.lots(2, 2147483646), 2);
        asks("child(1, 5)", x.child(1, 5), 1, 1);
        is("TIN", x.count(2), 2);
    }

    private void lotsByLots() {
        says(39, "CHILD it modulo how many there are: if it can be, it is PUT OUT");
        club("r2m0m0");
        is("lots(1, 1), who is 1", x.lots(1, 1), 1);
        is("who is IN", x.count(1), 1);
        club("r2m0m0m0m0");
        is("lots(1, 1), who is 3", x.lots(1, 1), 3);
        is("who is IN", x.count(1), 7);

        says(39, "else if it may, it JOINS");
        club("r2m0m0l01");
        x.grudge(0, 1);
        is("oust(1)", x.oust(1), 1);
        x.grudge(0, 1);
        is("lots(1, 1), who is 1", x.lots(1, 1), 2);
        is("who is IN", x.count(1), 3);

        says(39, "else it bears a GRUDGE to CHILD it by 16, cut, modulo the same (if that is itself: a FEE)");
        club("r0m5m5l10");
        is("lots(1, 1): 1 LIKES 0 no more", x.lots(1, 1), 2);
        asks("child(0, 5)", x.child(0, 5), 1, 0);
        is("TIN", x.count(2), 0);
        club("r2m5m5");
        x.oust(1);
        is("lots(1, 1): 1, who is out and may not JOIN, LIKES 0", x.lots(1, 1), 1);
        asks("child(0, 5)", x.child(0, 5), 1, 2);
        club("r0m5m5m5l01l21");
        is("lots(1, 1): 1 to 1 of three, a FEE", x.lots(1, 1), 3);
        is("TIN", x.count(2), 3);
        club("r0m5");
        is("lots(20, 7): one alone pays", x.lots(20, 7), 1);
        is("TIN", x.count(2), 5);

        says(39, "how many are IN then.");
        club("r2m0m0m0");
        is("lots(1, 2), who is 2", x.lots(1, 2), 2);
        is("lots(1, 2): 2 is out, and LIKES 0", x.lots(1, 2), 2);
        is("lots(1, 1), who is 1", x.lots(1, 1), 1);
    }

    private void lotsRefused() {
        says(39, "BAD");
        club("r0m0");
        refuses("lots(0, 1)", () -> x.lots(0, 1), BAD);
        refuses("lots(-1, 1)", () -> x.lots(-1, 1), BAD);
        refuses("lots(21, 1)", () -> x.lots(21, 1), BAD);
        refuses("lots(MAX, 1)", () -> x.lots(MAX, 1), BAD);
        refuses("lots(1, 0)", () -> x.lots(1, 0), BAD);
        refuses("lots(1, -1)", () -> x.lots(1, -1), BAD);
        refuses("lots(1, 2147483647)", () -> x.lots(1, 2147483647), BAD);

        says(39, "STATE: no CHILDREN");
        refuses("lots(1, 1)", () -> x.lots(1, 1), STATE);

        says(39, "FULL: with n more there would be more than 40 DEEDS.");
        club("r0m0");
        deeds(21);
        refuses("lots(20, 1) behind 21", () -> x.lots(20, 1), FULL);
        is("lots(19, 1) behind 21", x.lots(19, 1), 1);
        is("DEEDS", x.count(3), 40);
        refuses("lots(1, 1) behind 40", () -> x.lots(1, 1), FULL);

        says(39, "(FULL last.)");
        refuses("lots(0, 1) without CHILDREN", () -> x.lots(0, 1), BAD);
        club("r0m0");
        deeds(40);
        refuses("lots(21, 1) behind 40", () -> x.lots(21, 1), BAD);
        refuses("lots(1, 0) behind 40", () -> x.lots(1, 0), BAD);
    }
}
