/** Promises 8 to 11: text, put, fault, club. */
public final class TextsTest {
    private static final Due due = new Due();

    public static void main(String[] args) {
        textIsBlank();
        textRefuses();
        putCutsToAByte();
        putRefuses();
        faults();
        noFaults();
        faultRefuses();
        clubIsAnew();
        clubRefuses();
        due.end("TextsTest");
    }

    private static void textIsBlank() {
        NobodyJoins x = new NobodyJoins();
        due.is("text(0, 0)", x.text(0, 0), 0);
        due.is("text(3, 60)", x.text(3, 60), 60);
        due.is("count(7)", x.count(7), 2);
        due.is("put(3, 59, 65)", x.put(3, 59, 65), 1032);
        due.is("text(3, 60) anew", x.text(3, 60), 60);
        due.is("put of a place anew", x.put(3, 59, 65), 1032);
        due.is("put(3, 0, 65)", x.put(3, 0, 65), 1032);
        x.text(3, 1);
        due.is("put of the first place anew", x.put(3, 0, 65), 1032);
    }

    private static void textRefuses() {
        NobodyJoins x = new NobodyJoins();
        x.text(1, 2);
        long[] before = Due.state(x);
        due.is("text(-1, 1)", x.text(-1, 1), NobodyJoins.BAD);
        due.is("text(4, 1)", x.text(4, 1), NobodyJoins.BAD);
        due.is("text(1, 61)", x.text(1, 61), NobodyJoins.BAD);
        due.is("text(4, -1): BAD goes ahead", x.text(4, -1), NobodyJoins.BAD);
        due.finds("text(1, -1)", x, x.text(1, -1), Due.SIZE);
        due.unchanged("refused text", x, before);
    }

    private static void putCutsToAByte() {
        NobodyJoins x = new NobodyJoins();
        x.text(0, 1);
        due.is("put(0, 0, 127)", x.put(0, 0, 127), 1032);
        due.is("put(0, 0, 128)", x.put(0, 0, 128), 1127);
        due.is("put(0, 0, -1)", x.put(0, 0, -1), 872);
        due.is("put(0, 0, 256 + 65)", x.put(0, 0, 256 + 65), 999);
        due.is("put(0, 0, 0)", x.put(0, 0, 0), 1065);
    }

    private static void putRefuses() {
        NobodyJoins x = new NobodyJoins();
        x.text(0, 2);
        long[] before = Due.state(x);
        due.is("put(-1, ..)", x.put(-1, 0, 1), NobodyJoins.BAD);
        due.is("put(4, ..)", x.put(4, 0, 1), NobodyJoins.BAD);
        due.finds("put to a missing text", x, x.put(1, 9, 1), Due.NOTHING);
        due.finds("put(0, 2, 1)", x, x.put(0, 2, 1), Due.BEYOND);
        due.finds("put(0, -1, 1)", x, x.put(0, -1, 1), Due.BEYOND);
        due.unchanged("refused put", x, before);
    }

    private static void faults() {
        faultAt("", 0);
        faultAt("   ", 3);
        faultAt("x", 0);
        faultAt("m0", 0);
        faultAt("R0m0", 0);
        faultAt("  r", 3);
        faultAt("r4m0", 1);
        faultAt("r 0m0", 1);
        faultAt("r0", 2);
        faultAt("r0  ", 4);
        faultAt("r0l01", 2);
        faultAt("r0r0", 2);
        faultAt("r00", 2);
        faultAt("r0m", 3);
        faultAt("r0m ", 3);
        faultAt("r0m0m", 5);
        faultAt("r0m0ml01", 5);
        faultAt("r0m 0", 3);
        faultAt("r0mm", 3);
        faultAt("r0x0", 2);
        faultAt("r0m0x", 4);
        faultAt("r0m00", 4);
        faultAt("r0m0m0m0m0m0m0m", 14);
        faultAt("r0m0m0m0m0m0m0 x", 15);
        faultAt("r0m0m0l", 7);
        faultAt("r0m0m0l ", 7);
        faultAt("r0m0m0lx", 7);
        faultAt("r0m0m0ll01", 7);
        faultAt("r0m0m0l01l", 10);
        faultAt("r0m0m0l0l01", 8);
        faultAt("r0m0m0l2", 7);
        faultAt("r0m0m0l0", 8);
        faultAt("r0m0m0l0 1", 8);
        faultAt("r0m0m0l02", 8);
        faultAt("r0m0m0l00", 8);
        faultAt("r0m0m0l01l01", 11);
        faultAt("r0m0m0l01m0", 9);
        faultAt("r0m0m0l01 r0", 10);
        faultAt("r0m0m0l011", 9);
        faultAt("r0m0m0m0m0l01l02l03l10l12l13l20l21l23l30l31l32l", 46);
        faultAt("r0m0m0m0m0m0l01l02l03l10l12l13l20l21l23l30l31l32 l04", 49);
        faultAt("r0m" + (char) (256 - 48), 3);
    }

    private static void noFaults() {
        faultAt("r0m0", NobodyJoins.NONE);
        faultAt("  r3  m9  s0  l01  l10  ", NobodyJoins.NONE);
        faultAt("r1m0p1g2t3f4s5", NobodyJoins.NONE);
        faultAt("r2m0m0l01l10", NobodyJoins.NONE);
        faultAt("r0m0m0m0m0l01l02l03l10l12l13l20l21l23l30l31l32", NobodyJoins.NONE);
        faultAt("r0m0m0m0m0m0m0l05l54", NobodyJoins.NONE);
    }

    private static void faultAt(String text, int place) {
        NobodyJoins x = new NobodyJoins();
        Due.write(x, 3, text);
        due.is("fault of '" + text + "'", x.fault(3), place);
    }

    private static void faultRefuses() {
        NobodyJoins x = new NobodyJoins();
        due.is("fault(-1)", x.fault(-1), NobodyJoins.BAD);
        due.is("fault(4)", x.fault(4), NobodyJoins.BAD);
        due.finds("fault of a missing text", x, x.fault(0), Due.NOTHING);
    }

    private static void clubIsAnew() {
        NobodyJoins x = Due.clubOf("r0m1m1m1");
        x.fee();
        x.oust(0);
        x.keep(0);
        x.keep(1);
        x.keep(2);
        Due.write(x, 2, " r2 m3 p4 l10 ");
        due.is("club(2)", x.club(2), 2);
        due.is("all IN", x.count(1), 3);
        due.is("the TIN is empty", x.count(2), 0);
        due.is("no DEEDS", x.count(3), 0);
        due.is("kept CLUBS go", x.count(8), 0);
        due.finds("on(1)", x, x.on(1), Due.NOTHING);
        due.is("the RULE", x.rule(0), 2);
        x.child(1, 1);
        due.is("PENCE", x.asked(), 4);
        x.child(0, 5);
        due.is("who LIKES 0", x.asked(), 2);
        x.child(1, 5);
        due.is("who LIKES 1", x.asked(), 0);
    }

    private static void clubRefuses() {
        NobodyJoins x = Due.clubOf("r1m1p2l01");
        x.keep(0);
        x.fee();
        Due.write(x, 1, "r0m0m0m0l");
        long[] before = Due.state(x);
        due.is("club(-1)", x.club(-1), NobodyJoins.BAD);
        due.is("club(4)", x.club(4), NobodyJoins.BAD);
        due.finds("club of a missing text", x, x.club(3), Due.NOTHING);
        due.is("club of a FAULT", x.club(1), NobodyJoins.STATE);
        due.is("fault(1) leaves the club", x.fault(1), 9);
        due.is("fault(0) leaves the club", x.fault(0), NobodyJoins.NONE);
        due.unchanged("refused club", x, before);
    }
}
