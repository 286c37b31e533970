/** What the tests share: answers held against what is due, and clubs written out. */
final class Due {
    static final int NOTHING = 1, BEYOND = 2, UNLIKE = 3, NOUGHT = 4, SIZE = 5;

    private int wrong = 0;
    private int checked = 0;

    void is(String call, long got, long want) {
        checked++;
        if (got != want) {
            wrong++;
            System.out.println(call + " answered " + got + ", due is " + want);
        }
    }

    /** A call answered FINDING, and the finding is this one. */
    void finds(String call, NobodyJoins x, long got, int finding) {
        is(call, got, NobodyJoins.FINDING);
        is(call + ", finding()", x.finding(), finding);
    }

    /** All that a refused call must leave as it is. */
    static long[] state(NobodyJoins x) {
        return new long[] {x.digest(), x.asked(), x.upper(), x.lower()};
    }

    void unchanged(String call, NobodyJoins x, long[] before) {
        long[] after = state(x);
        for (int i = 0; i < before.length; i++) {
            is(call + " changed part " + i + " of the state, which", after[i], before[i]);
        }
    }

    void end(String name) {
        System.out.println(name + ": " + checked + " answers, " + wrong + " not as due");
        if (wrong != 0) {
            System.exit(1);
        }
    }

    static void write(NobodyJoins x, int t, String text) {
        x.text(t, text.length());
        for (int i = 0; i < text.length(); i++) {
            x.put(t, i, text.charAt(i));
        }
    }

    static void layRow(NobodyJoins x, int r, int... values) {
        x.row(r, values.length);
        for (int i = 0; i < values.length; i++) {
            x.lay(r, i, values[i]);
        }
    }

    static NobodyJoins clubOf(String text) {
        NobodyJoins x = new NobodyJoins();
        write(x, 0, text);
        if (x.club(0) < 0) {
            throw new IllegalStateException("the test's club has a fault: " + text);
        }
        return x;
    }
}
