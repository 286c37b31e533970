/** Promises 2 to 7: row, lay, at, tear, copy, mean. */
public final class RowsTest {
    private static final Due due = new Due();

    public static void main(String[] args) {
        rowIsThereWithNoughts();
        rowRefuses();
        layTellsWhatWas();
        layAndAtRefuse();
        tearMakesMissing();
        copyTakesAhead();
        copyRefuses();
        meanIsCut();
        meanRefuses();
        due.end("RowsTest");
    }

    private static void rowIsThereWithNoughts() {
        NobodyJoins x = new NobodyJoins();
        due.is("row(0, 0)", x.row(0, 0), 0);
        due.is("row(5, 40)", x.row(5, 40), 40);
        due.is("count(6)", x.count(6), 2);
        due.is("lay(5, 39, 8)", x.lay(5, 39, 8), 1);
        due.is("row(5, 40) anew", x.row(5, 40), 40);
        due.is("at(5, 39)", x.at(5, 39), 1);
        due.is("asked() of a place anew", x.asked(), 0);
        x.lay(5, 0, 8);
        x.row(5, 1);
        x.at(5, 0);
        due.is("asked() of the first place anew", x.asked(), 0);
    }

    private static void rowRefuses() {
        NobodyJoins x = new NobodyJoins();
        x.row(1, 3);
        long[] before = Due.state(x);
        due.is("row(-1, 3)", x.row(-1, 3), NobodyJoins.BAD);
        due.is("row(6, 3)", x.row(6, 3), NobodyJoins.BAD);
        due.is("row(1, 41)", x.row(1, 41), NobodyJoins.BAD);
        due.is("row(1, max)", x.row(1, Integer.MAX_VALUE), NobodyJoins.BAD);
        due.is("row(6, -1): BAD goes ahead", x.row(6, -1), NobodyJoins.BAD);
        due.is("no finding by BAD", x.finding(), 0);
        due.finds("row(1, -1)", x, x.row(1, -1), Due.SIZE);
        due.finds("row(1, min)", x, x.row(1, Integer.MIN_VALUE), Due.SIZE);
        due.unchanged("refused row", x, before);
    }

    private static void layTellsWhatWas() {
        NobodyJoins x = new NobodyJoins();
        x.row(2, 2);
        due.is("lay(2, 0, min)", x.lay(2, 0, Integer.MIN_VALUE), 1);
        due.is("asked()", x.asked(), 0);
        due.is("lay(2, 0, 7)", x.lay(2, 0, 7), 1);
        due.is("asked() of what it was", x.asked(), Integer.MIN_VALUE);
        due.is("at(2, 0)", x.at(2, 0), 1);
        due.is("asked()", x.asked(), 7);
        due.is("at(2, 1)", x.at(2, 1), 1);
        due.is("asked() of the other place", x.asked(), 0);
    }

    private static void layAndAtRefuse() {
        NobodyJoins x = new NobodyJoins();
        x.row(0, 2);
        x.lay(0, 1, 9);
        x.at(0, 1);
        long[] before = Due.state(x);
        due.is("lay(-1, ..)", x.lay(-1, 0, 1), NobodyJoins.BAD);
        due.is("lay(6, ..)", x.lay(6, 0, 1), NobodyJoins.BAD);
        due.is("at(-1, 0)", x.at(-1, 0), NobodyJoins.BAD);
        due.is("at(6, 0)", x.at(6, 0), NobodyJoins.BAD);
        due.finds("lay of a missing row", x, x.lay(1, 5, 1), Due.NOTHING);
        due.finds("lay(0, 2, 1)", x, x.lay(0, 2, 1), Due.BEYOND);
        due.finds("lay(0, -1, 1)", x, x.lay(0, -1, 1), Due.BEYOND);
        due.finds("at of a missing row", x, x.at(1, 0), Due.NOTHING);
        due.finds("at(0, 2)", x, x.at(0, 2), Due.BEYOND);
        due.finds("at(0, max)", x, x.at(0, Integer.MAX_VALUE), Due.BEYOND);
        due.finds("at(0, min)", x, x.at(0, Integer.MIN_VALUE), Due.BEYOND);
        due.unchanged("refused lay, at", x, before);
    }

    private static void tearMakesMissing() {
        NobodyJoins x = new NobodyJoins();
        x.row(3, 0);
        due.is("tear(3)", x.tear(3), 1);
        due.is("count(6)", x.count(6), 0);
        due.finds("tear(3) again", x, x.tear(3), Due.NOTHING);
        due.finds("at of a torn row", x, x.at(3, 0), Due.NOTHING);
        due.is("tear(-1)", x.tear(-1), NobodyJoins.BAD);
        due.is("tear(6)", x.tear(6), NobodyJoins.BAD);
    }

    private static void copyTakesAhead() {
        NobodyJoins x = new NobodyJoins();
        Due.layRow(x, 0, 1, 2, 3, 4, 5);
        due.is("copy up in itself", x.copy(0, 0, 0, 1, 4), 1);
        holds(x, 0, 1, 1, 2, 3, 4);
        Due.layRow(x, 0, 1, 2, 3, 4, 5);
        due.is("copy down in itself", x.copy(0, 2, 0, 1, 3), 1);
        holds(x, 0, 1, 3, 4, 5, 5);
        Due.layRow(x, 1, 9, 9, 9);
        due.is("copy to another", x.copy(0, 3, 1, 0, 2), 1);
        holds(x, 1, 5, 5, 9);
        due.is("copy none at both ends", x.copy(0, 5, 1, 3, 0), 1);
        x.row(2, 0);
        due.is("copy none of none", x.copy(2, 0, 2, 0, 0), 1);
    }

    private static void holds(NobodyJoins x, int r, int... values) {
        for (int i = 0; i < values.length; i++) {
            x.at(r, i);
            due.is("place " + i, x.asked(), values[i]);
        }
    }

    private static void copyRefuses() {
        NobodyJoins x = new NobodyJoins();
        Due.layRow(x, 0, 1, 2, 3);
        Due.layRow(x, 1, 4, 5);
        long[] before = Due.state(x);
        due.is("copy(-1, ..)", x.copy(-1, 0, 0, 0, 0), NobodyJoins.BAD);
        due.is("copy to 6: BAD goes ahead of SIZE", x.copy(0, 0, 6, 0, -1), NobodyJoins.BAD);
        due.finds("n below 0, a row missing", x, x.copy(0, 0, 5, 0, -1), Due.SIZE);
        due.finds("n below 0, places beyond", x, x.copy(0, 9, 1, 9, -1), Due.SIZE);
        due.finds("from a missing row", x, x.copy(5, 0, 0, 0, 0), Due.NOTHING);
        due.finds("to a missing row, places beyond", x, x.copy(0, 9, 5, 0, 1), Due.NOTHING);
        due.finds("too many from", x, x.copy(1, 1, 0, 0, 2), Due.BEYOND);
        due.finds("too many to", x, x.copy(0, 0, 1, 0, 3), Due.BEYOND);
        due.finds("from -1", x, x.copy(0, -1, 1, 0, 1), Due.BEYOND);
        due.finds("to -1", x, x.copy(0, 0, 1, -1, 1), Due.BEYOND);
        due.finds("none from behind the end", x, x.copy(0, 4, 1, 0, 0), Due.BEYOND);
        due.finds("sums that wrap around", x, x.copy(0, 1, 1, 0, Integer.MAX_VALUE), Due.BEYOND);
        due.finds("places that wrap around", x, x.copy(0, Integer.MAX_VALUE, 1, 0, 1), Due.BEYOND);
        due.unchanged("refused copy", x, before);
    }

    private static void meanIsCut() {
        NobodyJoins x = new NobodyJoins();
        Due.layRow(x, 0, 1, 2, 2);
        due.is("mean(0)", x.mean(0), 1);
        due.is("asked() 5 by 3", x.asked(), 1);
        Due.layRow(x, 0, -1, -2, -2);
        x.mean(0);
        due.is("asked() -5 by 3", x.asked(), -1);
        Due.layRow(x, 0, Integer.MAX_VALUE, Integer.MAX_VALUE, Integer.MAX_VALUE - 3);
        x.mean(0);
        due.is("asked() of large ones", x.asked(), Integer.MAX_VALUE - 1);
    }

    private static void meanRefuses() {
        NobodyJoins x = new NobodyJoins();
        due.is("mean(-1)", x.mean(-1), NobodyJoins.BAD);
        due.is("mean(6)", x.mean(6), NobodyJoins.BAD);
        due.finds("mean of a missing row", x, x.mean(0), Due.NOTHING);
        x.row(0, 0);
        due.finds("mean of none", x, x.mean(0), Due.NOUGHT);
    }
}
