/** Promises 1 and 40 to 46: a new object, asked, upper, lower, count, finding, findings, digest. */
public final class ToldTest {
    private static final Due due = new Due();

    public static void main(String[] args) {
        newObject();
        askedIsTheLatest();
        askedIsLeftByOthers();
        upperAndLowerAreTheLatest();
        counts();
        findingsAreCounted();
        digestOfANewOne();
        digestOfAll();
        due.end("ToldTest");
    }

    private static void newObject() {
        NobodyJoins x = new NobodyJoins();
        for (int what = 0; what < 9; what++) {
            due.is("count(" + what + ")", x.count(what), 0);
        }
        due.is("asked()", x.asked(), 0);
        due.is("upper()", x.upper(), 0);
        due.is("lower()", x.lower(), 1);
        due.is("finding()", x.finding(), 0);
        for (int f = 1; f <= 5; f++) {
            due.is("findings(" + f + ")", x.findings(f), 0);
        }
        for (int r = 0; r < 6; r++) {
            due.finds("tear(" + r + ")", x, x.tear(r), Due.NOTHING);
        }
        for (int t = 0; t < 4; t++) {
            due.finds("fault(" + t + ")", x, x.fault(t), Due.NOTHING);
        }
        for (int k = 0; k < 3; k++) {
            due.finds("on(" + k + ")", x, x.on(k), Due.NOTHING);
        }
    }

    /** A club, and asked() being 77. */
    private static NobodyJoins asking() {
        NobodyJoins x = Due.clubOf("r0m3m4m5l01l02");
        x.row(0, 2);
        x.lay(0, 0, 77);
        x.at(0, 0);
        due.is("at(0, 0), asked()", x.asked(), 77);
        return x;
    }

    private static void askedIsTheLatest() {
        NobodyJoins x = asking();
        x.lay(0, 1, 5);
        due.is("lay(), asked()", x.asked(), 0);
        x.mean(0);
        due.is("mean(), asked()", x.asked(), 41);
        x.child(2, 1);
        due.is("child(), asked()", x.asked(), 5);
        x.yes(1);
        due.is("yes(), asked()", x.asked(), 2);
        x.can();
        due.is("can(), asked()", x.asked(), 0);
        x.ways(1);
        due.is("ways(), asked()", x.asked(), 1);
        x.stands();
        due.is("stands(), asked()", x.asked(), 3);
        x.row(1, 0);
        x.run(1);
        due.is("run(), asked()", x.asked(), 7);
        x.splits();
        due.is("splits(), asked()", x.asked(), 1);
        x.peace();
        due.is("peace(), asked()", x.asked(), 6);
        x.share(0);
        due.is("share(), asked()", x.asked(), 0);
    }

    private static void askedIsLeftByOthers() {
        NobodyJoins x = asking();
        Due.write(x, 1, "r0m0");
        x.fault(1);
        x.row(1, 2);
        x.copy(0, 0, 1, 0, 2);
        x.tear(1);
        x.mark(0, 1);
        x.rule(1);
        x.fee();
        x.grudge(0, 1);
        x.undo(0);
        x.rule(0);
        x.keep(0);
        x.oust(0);
        x.join(0);
        x.on(0);
        x.swing(0);
        x.rules(0);
        x.longest(1);
        x.alone();
        x.power(0);
        x.secrets();
        x.row(1, 0);
        x.told(1);
        x.minutes(1);
        x.odds(3);
        x.lots(2, 9);
        x.upper();
        x.lower();
        x.count(1);
        x.finding();
        x.findings(1);
        x.digest();
        x.club(1);
        due.is("asked() behind others", x.asked(), 77);
    }

    private static void upperAndLowerAreTheLatest() {
        NobodyJoins x = Due.clubOf("r0p0m0m0");
        x.power(0);
        due.is("power(), upper()", x.upper(), 2);
        due.is("power(), lower()", x.lower(), 3);
        x.can();
        x.stands();
        x.alone();
        due.is("upper() behind others", x.upper(), 2);
        due.is("lower() behind others", x.lower(), 3);
        x.ways(0);
        due.is("ways(), lower()", x.lower(), 1);
        x.power(1);
        x.row(0, 0);
        x.minutes(0);
        due.is("minutes(), upper()", x.upper(), 1);
        due.is("minutes(), lower()", x.lower(), 1);
        x.odds(5);
        due.is("odds(), upper()", x.upper(), 0);
        due.is("odds(), lower()", x.lower(), 1);
    }

    private static void counts() {
        NobodyJoins x = Due.clubOf("r0p1m2f3t5s1p0");
        x.row(0, 3);
        x.row(5, 0);
        x.text(3, 0);
        x.text(2, 1);
        x.fee();
        x.keep(1);
        due.is("oust(5)", x.oust(5), 5);
        int[] values = {6, 31, 5, 2, 7, 3, 2, 3, 1};
        for (int what = 0; what < 9; what++) {
            due.is("count(" + what + ")", x.count(what), values[what]);
        }
        due.is("count(-1)", x.count(-1), NobodyJoins.BAD);
        due.is("count(9)", x.count(9), NobodyJoins.BAD);
    }

    private static void findingsAreCounted() {
        NobodyJoins x = Due.clubOf("r0m0");
        x.row(0, 0);
        x.tear(1);
        x.tear(1);
        x.at(0, 0);
        x.mark(0, 1);
        x.mark(0, 2);
        x.mark(0, 3);
        x.mean(0);
        x.row(2, -5);
        due.is("finding()", x.finding(), Due.SIZE);
        int[] often = {2, 1, 3, 1, 1};
        for (int f = 1; f <= 5; f++) {
            due.is("findings(" + f + ")", x.findings(f), often[f - 1]);
        }
        x.tear(1);
        due.is("finding() of the latest", x.finding(), Due.NOTHING);
        x.row(6, 0);
        x.oust(0);
        x.can();
        due.is("finding() stays", x.finding(), Due.NOTHING);
        due.is("findings(0)", x.findings(0), NobodyJoins.BAD);
        due.is("findings(6)", x.findings(6), NobodyJoins.BAD);
        due.is("findings(-1)", x.findings(-1), NobodyJoins.BAD);
    }

    private static long digestOf(long... values) {
        long h = 17;
        for (long v : values) {
            h = 31 * h + v;
        }
        return h;
    }

    private static void digestOfANewOne() {
        due.is("digest()", new NobodyJoins().digest(), digestOf(
            0, 0, 0, 0, 0, 0, 0, 0, 0, 0,
            -1, -1, -1,
            -1, -1, -1, -1, -1, -1,
            -1, -1, -1, -1));
    }

    private static void digestOfAll() {
        NobodyJoins x = Due.clubOf("r2m1f3l01");
        x.keep(0);
        x.fee();
        x.keep(2);
        x.grudge(1, 0);
        Due.layRow(x, 1, 5, -6);
        x.row(4, 0);
        x.text(2, 1);
        x.put(2, 0, -3);
        due.is("digest()", x.digest(), digestOf(
            2, 3, 2, 2, 4, 1, 2, 2, 2, 2,
            0, 0, 1, 1, 2, 2,
            4, 2, 1, 3, 1, 1,
            0, -1, 1,
            -1, 2, 5, -6, -1, -1, 0, -1,
            9, 114, 50, 109, 49, 102, 51, 108, 48, 49, -1, 1, -3, -1));
    }
}
