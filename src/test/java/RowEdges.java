/** Promises 1 to 9: a new object, row, lay, at, tear, copy, mean, text, put. */
final class RowEdges extends Edges {
    @Override
    void all() {
        newObject();
        row();
        lay();
        at();
        tear();
        copy();
        copyRefused();
        mean();
        text();
        put();
    }

    private void newObject() {
        says(1, "No ROWS, TEXTS, CHILDREN.");
        is("count(6)", x.count(6), 0);
        is("count(7)", x.count(7), 0);
        is("count(0)", x.count(0), 0);
        refuses("child(0, 0)", () -> x.child(0, 0), BAD);
    }

    private void row() {
        says(2, "A ROW is there with n ints 0: n.");
        is("row(2, 0)", x.row(2, 0), 0);
        holds(2);
        is("row(2, 3)", x.row(2, 3), 3);
        holds(2, 0, 0, 0);
        row(2, 7, 8, 9);
        is("row(2, 2), shorter", x.row(2, 2), 2);
        holds(2, 0, 0);
        is("row(2, 3), longer again", x.row(2, 3), 3);
        holds(2, 0, 0, 0);

        says(2, "BAD: also n above 40");
        is("row(0, 40)", x.row(0, 40), 40);
        refuses("row(0, 41)", () -> x.row(0, 41), BAD);
        refuses("row(0, MAX)", () -> x.row(0, MAX), BAD);
        refuses("row(6, 0)", () -> x.row(6, 0), BAD);
        refuses("row(-1, 0)", () -> x.row(-1, 0), BAD);
        refuses("row(MIN, 0)", () -> x.row(MIN, 0), BAD);
        refuses("row(6, -1), not SIZE", () -> x.row(6, -1), BAD);

        says(2, "SIZE: below 0.");
        is("row(5, 2)", x.row(5, 2), 2);
        finds("row(5, -1)", () -> x.row(5, -1), SIZE);
        finds("row(5, MIN)", () -> x.row(5, MIN), SIZE);
        holds(5, 0, 0);
    }

    private void lay() {
        says(3, "Place i of a ROW is v: what it was, told by asked(): 1.");
        x.row(1, 2);
        asks("lay(1, 0, 5)", x.lay(1, 0, 5), 1, 0);
        asks("lay(1, 0, -7)", x.lay(1, 0, -7), 1, 5);
        asks("lay(1, 1, MIN)", x.lay(1, 1, MIN), 1, 0);
        holds(1, -7, MIN);

        says(3, "BAD");
        refuses("lay(6, 0, 1)", () -> x.lay(6, 0, 1), BAD);
        refuses("lay(-1, 0, 1)", () -> x.lay(-1, 0, 1), BAD);

        says(3, "NOTHING");
        finds("lay(5, 0, 1)", () -> x.lay(5, 0, 1), NOTHING);
        finds("lay(5, -1, 1), not BEYOND", () -> x.lay(5, -1, 1), NOTHING);

        says(3, "BEYOND.");
        row(0, 4, 5);
        x.row(1, 0);
        finds("lay(0, 2, 1)", () -> x.lay(0, 2, 1), BEYOND);
        finds("lay(0, -1, 1)", () -> x.lay(0, -1, 1), BEYOND);
        finds("lay(0, MAX, 1)", () -> x.lay(0, MAX, 1), BEYOND);
        finds("lay(0, MIN, 1)", () -> x.lay(0, MIN, 1), BEYOND);
        finds("lay(1, 0, 1) of none", () -> x.lay(1, 0, 1), BEYOND);
    }

    private void at() {
        says(4, "Place i of a ROW, told by asked(): 1.");
        row(0, MAX, -1);
        asks("at(0, 0)", x.at(0, 0), 1, MAX);
        asks("at(0, 1)", x.at(0, 1), 1, -1);
        asks("at(0, 1) again", x.at(0, 1), 1, -1);

        says(4, "BAD");
        refuses("at(6, 0)", () -> x.at(6, 0), BAD);
        refuses("at(-1, 0)", () -> x.at(-1, 0), BAD);

        says(4, "NOTHING");
        finds("at(5, 0)", () -> x.at(5, 0), NOTHING);
        finds("at(5, 99), not BEYOND", () -> x.at(5, 99), NOTHING);

        says(4, "BEYOND.");
        row(0, 4, 5);
        x.row(1, 0);
        finds("at(0, 2)", () -> x.at(0, 2), BEYOND);
        finds("at(0, -1)", () -> x.at(0, -1), BEYOND);
        finds("at(0, MAX)", () -> x.at(0, MAX), BEYOND);
        finds("at(0, MIN)", () -> x.at(0, MIN), BEYOND);
        finds("at(1, 0) of none", () -> x.at(1, 0), BEYOND);
    }

    private void tear() {
        says(5, "A ROW is missing: 1.");
        row(3, 1, 2);
        row(4, 3);
        is("tear(3)", x.tear(3), 1);
        finds("at(3, 0)", () -> x.at(3, 0), NOTHING);
        is("count(6)", x.count(6), 1);
        holds(4, 3);
        is("row(3, 2) anew", x.row(3, 2), 2);
        holds(3, 0, 0);
        x.row(5, 0);
        is("tear(5) of none", x.tear(5), 1);

        says(5, "BAD");
        refuses("tear(-1)", () -> x.tear(-1), BAD);
        refuses("tear(6)", () -> x.tear(6), BAD);

        says(5, "NOTHING.");
        finds("tear(0)", () -> x.tear(0), NOTHING);
        x.row(0, 1);
        x.tear(0);
        finds("tear(0) twice", () -> x.tear(0), NOTHING);
    }

    private void copy() {
        says(6, "n places of a ROW, from one on, come to those of another one");
        row(0, 1, 2, 3, 4);
        row(1, 9, 9, 9);
        is("copy(0, 1, 1, 0, 2)", x.copy(0, 1, 1, 0, 2), 1);
        holds(1, 2, 3, 9);
        holds(0, 1, 2, 3, 4);
        is("copy(0, 3, 1, 2, 1), the last places", x.copy(0, 3, 1, 2, 1), 1);
        holds(1, 2, 3, 4);
        is("copy(0, 1, 1, 0, 3), all of a row", x.copy(0, 1, 1, 0, 3), 1);
        holds(1, 2, 3, 4);
        is("copy(0, 0, 1, 0, 0), none", x.copy(0, 0, 1, 0, 0), 1);
        is("copy(0, 4, 1, 3, 0), none at the ends", x.copy(0, 4, 1, 3, 0), 1);
        holds(1, 2, 3, 4);

        says(6, "(perhaps itself) from one on, as if taken ahead: 1.");
        row(0, 1, 2, 3, 4);
        is("copy up", x.copy(0, 0, 0, 1, 3), 1);
        holds(0, 1, 1, 2, 3);
        row(0, 1, 2, 3, 4);
        is("copy down", x.copy(0, 1, 0, 0, 3), 1);
        holds(0, 2, 3, 4, 4);
        is("copy to the same places", x.copy(0, 0, 0, 0, 4), 1);
        holds(0, 2, 3, 4, 4);
        x.row(5, 40);
        x.lay(5, 39, 6);
        is("copy of all forty", x.copy(5, 0, 5, 0, 40), 1);
        asks("at(5, 39)", x.at(5, 39), 1, 6);
    }

    private void copyRefused() {
        says(6, "BAD");
        x.row(0, 2);
        refuses("copy from 6", () -> x.copy(6, 0, 0, 0, 1), BAD);
        refuses("copy from -1", () -> x.copy(-1, 0, 0, 0, 1), BAD);
        refuses("copy to 6", () -> x.copy(0, 0, 6, 0, 1), BAD);
        refuses("copy to -1", () -> x.copy(0, 0, -1, 0, 1), BAD);
        refuses("copy to 6 of -1, not SIZE", () -> x.copy(0, 0, 6, 0, -1), BAD);

        says(6, "SIZE: n below 0");
        x.row(0, 2);
        finds("copy of -1", () -> x.copy(0, 0, 0, 0, -1), SIZE);
        finds("copy of MIN", () -> x.copy(0, 0, 0, 0, MIN), SIZE);
        finds("copy of -1 from a missing row, not NOTHING", () -> x.copy(1, 0, 0, 0, -1), SIZE);
        finds("copy of -1 from place 5, not BEYOND", () -> x.copy(0, 5, 0, 0, -1), SIZE);

        says(6, "NOTHING: either");
        x.row(0, 2);
        finds("copy from a missing row", () -> x.copy(1, 0, 0, 0, 1), NOTHING);
        finds("copy to a missing row", () -> x.copy(0, 0, 1, 0, 1), NOTHING);
        finds("copy of both", () -> x.copy(1, 0, 2, 0, 0), NOTHING);
        finds("copy from place 5 to a missing row, not BEYOND", () -> x.copy(0, 5, 1, 0, 1), NOTHING);

        says(6, "BEYOND: not so many there.");
        row(0, 1, 2, 3);
        row(1, 4, 5);
        finds("too many from", () -> x.copy(1, 1, 0, 0, 2), BEYOND);
        finds("too many to", () -> x.copy(0, 0, 1, 1, 2), BEYOND);
        finds("four of three", () -> x.copy(0, 0, 0, 0, 4), BEYOND);
        finds("from -1", () -> x.copy(0, -1, 1, 0, 1), BEYOND);
        finds("to -1", () -> x.copy(0, 0, 1, -1, 1), BEYOND);
        finds("from -1, none", () -> x.copy(0, -1, 1, 0, 0), BEYOND);
        finds("to -1, none", () -> x.copy(0, 0, 1, -1, 0), BEYOND);
        finds("from behind the end, none", () -> x.copy(0, 4, 1, 0, 0), BEYOND);
        finds("to behind the end, none", () -> x.copy(0, 0, 1, 3, 0), BEYOND);
        finds("MAX of them", () -> x.copy(0, 1, 1, 1, MAX), BEYOND);
        finds("from MAX", () -> x.copy(0, MAX, 1, 0, 1), BEYOND);
        finds("to MAX", () -> x.copy(0, 0, 1, MAX, 1), BEYOND);
        finds("from MIN", () -> x.copy(0, MIN, 1, 0, MAX), BEYOND);
        holds(0, 1, 2, 3);
        holds(1, 4, 5);
    }

    private void meanIs(int mean, int... values) {
        row(4, values);
        asks("mean(4)", x.mean(4), 1, mean);
    }

    private void mean() {
        says(7, "The mean of a ROW's ints, cut, told by asked(): 1.");
        meanIs(5, 5);
        meanIs(1, 1, 2);
        meanIs(-1, -1, -2);
        meanIs(0, -1, 0);
        meanIs(0, 2, -1, 1);
        meanIs(MAX, MAX, MAX, MAX);
        meanIs(MIN, MIN, MIN, MIN);
        meanIs(0, MIN, MAX);
        meanIs(MAX - 1, MAX, MAX - 1);
        x.row(5, 40);
        for (int i = 0; i < 40; i++) {
            x.lay(5, i, i);
        }
        asks("mean of 0 to 39", x.mean(5), 1, 19);

        says(7, "BAD");
        refuses("mean(-1)", () -> x.mean(-1), BAD);
        refuses("mean(6)", () -> x.mean(6), BAD);

        says(7, "NOTHING");
        finds("mean(5)", () -> x.mean(5), NOTHING);

        says(7, "NOUGHT.");
        x.row(5, 0);
        finds("mean(5) of none", () -> x.mean(5), NOUGHT);
    }

    private void text() {
        says(8, "A TEXT is there with n blanks: n.");
        is("text(1, 0)", x.text(1, 0), 0);
        is("fault(1) of none", x.fault(1), 0);
        is("text(1, 2)", x.text(1, 2), 2);
        is("put(1, 0, 114)", x.put(1, 0, 114), 1032);
        is("put(1, 1, 48)", x.put(1, 1, 48), 1032);
        is("text(1, 1), shorter", x.text(1, 1), 1);
        is("put(1, 0, 9)", x.put(1, 0, 9), 1032);
        is("text(1, 2), longer again", x.text(1, 2), 2);
        is("put(1, 1, 9)", x.put(1, 1, 9), 1032);
        is("count(7)", x.count(7), 1);

        says(8, "BAD: also n above 60");
        is("text(0, 60)", x.text(0, 60), 60);
        refuses("text(0, 61)", () -> x.text(0, 61), BAD);
        refuses("text(0, MAX)", () -> x.text(0, MAX), BAD);
        refuses("text(4, 0)", () -> x.text(4, 0), BAD);
        refuses("text(-1, 0)", () -> x.text(-1, 0), BAD);
        refuses("text(4, -1), not SIZE", () -> x.text(4, -1), BAD);

        says(8, "SIZE: below 0.");
        x.text(3, 1);
        finds("text(3, -1)", () -> x.text(3, -1), SIZE);
        finds("text(3, MIN)", () -> x.text(3, MIN), SIZE);
        finds("text(2, -1) of a missing one", () -> x.text(2, -1), SIZE);
    }

    private void put() {
        says(9, "Byte i of a TEXT is v, cut to a byte: what it was, and 1000 more.");
        x.text(0, 60);
        is("put of 127", x.put(0, 59, 127), 1032);
        is("put of 128", x.put(0, 59, 128), 1127);
        is("put of 255", x.put(0, 59, 255), 872);
        is("put of 256", x.put(0, 59, 256), 999);
        is("put of -1", x.put(0, 59, -1), 1000);
        is("put of -129", x.put(0, 59, -129), 999);
        is("put of MAX", x.put(0, 59, MAX), 1127);
        is("put of MIN", x.put(0, 59, MIN), 999);
        is("put of 0", x.put(0, 59, 0), 1000);
        is("put of another place", x.put(0, 58, 65), 1032);
        is("put of 256 and 48 at the first", x.put(0, 0, 256 + 48), 1032);
        is("put of the first again", x.put(0, 0, 0), 1048);

        says(9, "BAD");
        refuses("put(-1, 0, 1)", () -> x.put(-1, 0, 1), BAD);
        refuses("put(4, 0, 1)", () -> x.put(4, 0, 1), BAD);

        says(9, "NOTHING");
        finds("put(3, 0, 1)", () -> x.put(3, 0, 1), NOTHING);
        finds("put(3, 60, 1), not BEYOND", () -> x.put(3, 60, 1), NOTHING);

        says(9, "BEYOND.");
        x.text(0, 2);
        x.text(1, 0);
        finds("put(0, 2, 1)", () -> x.put(0, 2, 1), BEYOND);
        finds("put(0, -1, 1)", () -> x.put(0, -1, 1), BEYOND);
        finds("put(0, MAX, 1)", () -> x.put(0, MAX, 1), BEYOND);
        finds("put(0, MIN, 1)", () -> x.put(0, MIN, 1), BEYOND);
        finds("put(1, 0, 1) of none", () -> x.put(1, 0, 1), BEYOND);
    }
}
