/** Promises 26 to 32: longest, ways, alone, stands, run, splits, peace. */
public final class OrdersTest {
    private static final Due due = new Due();

    public static void main(String[] args) {
        longestComesToARow();
        longestRefuses();
        waysToTheEnd();
        waysRefuses();
        aloneAtTheEnd();
        setsThatStand();
        runsAnOrder();
        runRefusesInOrder();
        splitsInTwo();
        peaceByGrudges();
        peaceRefuses();
        asideOfTheClub();
        due.end("OrdersTest");
    }

    private static void longestIs(NobodyJoins x, int... order) {
        due.is("longest(5)", x.longest(5), order.length);
        for (int i = 0; i < order.length; i++) {
            due.is("at(5, " + i + ")", x.at(5, i), 1);
            due.is("place " + i + " of the longest", x.asked(), order[i]);
        }
        due.finds("at behind the longest", x, x.at(5, order.length), Due.BEYOND);
    }

    private static void longestComesToARow() {
        longestIs(Due.clubOf("r0m0"));
        longestIs(Due.clubOf("r0m0m0m0"), 0);
        longestIs(Due.clubOf("r2m0m0m0m0"), 0, 1, 2);
        // 1 can go just behind 0, who LIKES it.
        longestIs(Due.clubOf("r2m0m0m0l01"), 0, 1);
        longestIs(Due.clubOf("r2m0m0m0l10l20"), 1, 2);
        // 0 can go just behind the GUARD.
        longestIs(Due.clubOf("r2m0g0m0l10"), 1, 0);
        NobodyJoins x = Due.clubOf("r2m0m0m0m0");
        x.oust(1);
        longestIs(x, 0, 2);
        x.undo(0);
        x.rule(0);
        longestIs(x, 0, 1);
        x.rule(2);
        x.oust(1);
        Due.layRow(x, 5, 7, 7, 7, 7, 7);
        longestIs(x, 0, 2);
    }

    private static void longestRefuses() {
        NobodyJoins x = new NobodyJoins();
        long[] before = Due.state(x);
        due.is("longest(-1)", x.longest(-1), NobodyJoins.BAD);
        due.is("longest(6)", x.longest(6), NobodyJoins.BAD);
        due.is("longest(0) without children", x.longest(0), NobodyJoins.STATE);
        due.unchanged("refused longest", x, before);
    }

    private static void waysAre(NobodyJoins x, int i, int all, int with) {
        due.is("odds(12) ahead", x.odds(12), 1);
        due.is("ways(" + i + ")", x.ways(i), 1);
        due.is("ways(" + i + "), upper()", x.upper(), all);
        due.is("ways(" + i + "), lower()", x.lower(), 1);
        due.is("ways(" + i + "), asked()", x.asked(), with);
    }

    private static void waysToTheEnd() {
        waysAre(Due.clubOf("r0m0"), 0, 1, 1);
        waysAre(Due.clubOf("r0m0m0m0"), 0, 3, 2);
        waysAre(Due.clubOf("r2m0m0m0"), 1, 6, 2);
        waysAre(Due.clubOf("r2m0m0m0m0m0m0"), 5, 720, 120);
        waysAre(Due.clubOf("r0m0m0m0l10"), 0, 2, 2);
        NobodyJoins x = Due.clubOf("r2m0m0m0m0");
        x.oust(0);
        waysAre(x, 1, 6, 2);
        waysAre(x, 0, 6, 0);
    }

    private static void waysRefuses() {
        NobodyJoins x = Due.clubOf("r0m0m0m0");
        x.power(0);
        x.yes(0);
        long[] before = Due.state(x);
        due.is("ways(-1)", x.ways(-1), NobodyJoins.BAD);
        due.is("ways(3)", x.ways(3), NobodyJoins.BAD);
        due.unchanged("refused ways", x, before);
        due.is("ways(0) without children", new NobodyJoins().ways(0), NobodyJoins.BAD);
    }

    private static void aloneAtTheEnd() {
        due.is("alone() of none", new NobodyJoins().alone(), 0);
        due.is("alone() of one", Due.clubOf("r0m0").alone(), 1);
        due.is("alone() by RULE 0", Due.clubOf("r0m0m0m0").alone(), 0);
        due.is("alone() by RULE 2", Due.clubOf("r2m0m0m0").alone(), 7);
        due.is("alone(): a PRESIDENT by RULE 0", Due.clubOf("r0m0p0m0").alone(), 2);
        NobodyJoins x = Due.clubOf("r2m0m0m0");
        x.oust(0);
        due.is("alone(), one being out", x.alone(), 6);
    }

    private static void standing(String club, int how, int largest) {
        NobodyJoins x = Due.clubOf(club);
        due.is("stands() of " + club, x.stands(), how);
        due.is("stands() of " + club + ", asked()", x.asked(), largest);
    }

    private static void setsThatStand() {
        NobodyJoins none = new NobodyJoins();
        none.row(0, 1);
        none.lay(0, 0, 5);
        none.at(0, 0);
        due.is("stands() of none", none.stands(), 0);
        due.is("stands() of none, asked()", none.asked(), 0);
        standing("r0m0", 1, 1);
        standing("r0m0m0m0", 6, 3);
        standing("r2m0m0m0", 3, 1);
        standing("r2m0m0m0l12l21", 4, 6);
        NobodyJoins x = Due.clubOf("r0m0m0m0");
        x.oust(0);
        due.is("stands(), one being out", x.stands(), 6);
    }

    private static void runIs(NobodyJoins x, int out, int left, int... order) {
        Due.layRow(x, 4, order);
        due.is("run(4)", x.run(4), out);
        due.is("run(4), asked()", x.asked(), left);
    }

    private static void runsAnOrder() {
        NobodyJoins x = Due.clubOf("r2m0m0m0");
        runIs(x, 0, 7);
        runIs(x, 1, 5, 1, 1);
        runIs(x, 2, 2, 2, 0, 1);
        runIs(x, 2, 4, 1, 0, 2, 1, 0, 2);
        NobodyJoins y = Due.clubOf("r0m0m0m0l10");
        runIs(y, 0, 7, 0, 1);
        runIs(y, 1, 5, 1, 0);
        y.oust(1);
        runIs(y, 0, 5, 1, 0);
    }

    private static void runRefusesInOrder() {
        NobodyJoins x = new NobodyJoins();
        due.is("run(6) without children", x.run(6), NobodyJoins.BAD);
        due.is("run(0) without children and row", x.run(0), NobodyJoins.STATE);
        x = Due.clubOf("r2m0m0m0");
        Due.layRow(x, 0, 0, 1, 2, 0, 1, 2, 9);
        Due.layRow(x, 1, 0, 1, 2, 0, 1, 3);
        Due.layRow(x, 2, 1, 1, -1);
        x.yes(0);
        long[] before = Due.state(x);
        due.is("run(-1)", x.run(-1), NobodyJoins.BAD);
        due.finds("run of a missing row", x, x.run(3), Due.NOTHING);
        due.finds("run of seven, one no CHILD", x, x.run(0), Due.SIZE);
        due.finds("run of no CHILD at last", x, x.run(1), Due.UNLIKE);
        due.finds("run of no CHILD behind one that can't be", x, x.run(2), Due.UNLIKE);
        due.unchanged("refused run", x, before);
    }

    private static void splitting(NobodyJoins x, int ways, int first) {
        due.is("splits()", x.splits(), ways);
        due.is("splits(), asked()", x.asked(), first);
    }

    private static void splitsInTwo() {
        splitting(new NobodyJoins(), 0, NobodyJoins.NONE);
        splitting(Due.clubOf("r0m0"), 0, NobodyJoins.NONE);
        splitting(Due.clubOf("r0m0m0m0"), 3, 1);
        splitting(Due.clubOf("r2m0m0m0m0l01l10l23l32"), 1, 3);
        splitting(Due.clubOf("r2m0m0m0m0l01l10"), 0, NobodyJoins.NONE);
        splitting(Due.clubOf("r0m0m0m0m0"), 3, 3);
        NobodyJoins x = Due.clubOf("r0m0m0m0m0");
        x.oust(0);
        splitting(x, 3, 2);
    }

    private static void peaceIs(NobodyJoins x, int grudges, int first) {
        due.is("peace()", x.peace(), grudges);
        due.is("peace(), asked()", x.asked(), first);
    }

    private static void peaceByGrudges() {
        peaceIs(Due.clubOf("r0m0"), 0, 0);
        peaceIs(Due.clubOf("r0m0m0m0l01l12l20"), 0, 0);
        peaceIs(Due.clubOf("r0m0m0m0l01l12"), 1, 6);
        peaceIs(Due.clubOf("r0m0m0m0l01"), 2, 36 * 2 + 6);
        peaceIs(Due.clubOf("r1m0m0m0l12l21l10"), 0, 0);
        NobodyJoins x = Due.clubOf("r0m0m0m0");
        x.row(0, 1);
        x.lay(0, 0, 55);
        x.at(0, 0);
        due.is("peace() by no 2", x.peace(), NobodyJoins.NONE);
        due.is("NONE leaves asked()", x.asked(), 55);
        NobodyJoins y = Due.clubOf("r0m0m0m0m0l12l21l13l31");
        y.oust(0);
        peaceIs(y, 0, 0);
        y.grudge(1, 2);
        peaceIs(y, 1, 6 * 1 + 2);
        // Of five each one stays whom two others LIKE: 4 lacks one, then both.
        peaceIs(Due.clubOf("r0m0m0m0m0m0l10l20l01l21l02l12l13l23l04"), 1, 6 * 1 + 4);
        peaceIs(Due.clubOf("r0m0m0m0m0m0l10l20l01l21l02l12l13l23"), 2, 36 * 4 + 6 * 1 + 4);
    }

    private static void peaceRefuses() {
        NobodyJoins x = new NobodyJoins();
        long[] before = Due.state(x);
        due.is("peace() without children", x.peace(), NobodyJoins.STATE);
        due.unchanged("refused peace", x, before);
    }

    private static void asideOfTheClub() {
        NobodyJoins x = Due.clubOf("r0m1p2g3t5f0s9l01l12l23l34");
        Due.layRow(x, 0, 5, 0);
        x.fee();
        x.oust(0);
        long before = x.digest();
        x.ways(0);
        x.alone();
        x.stands();
        x.run(0);
        x.splits();
        x.peace();
        due.is("digest() behind orders", x.digest(), before);
    }
}
