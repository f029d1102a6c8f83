import java.util.Arrays;

/** Promises 1 to 7: a new object, row, lay, at, tear, copy, mean. */
final class RowsSentences {
    private static final int BAD = SecondRoom.BAD;
    private static final int NOTHING = 1, BEYOND = 2, NOUGHT = 4, SIZE = 5;
    private static final int MIN = Integer.MIN_VALUE, MAX = Integer.MAX_VALUE;
    private static final int MOST = 40;

    private RowsSentences() {
    }

    static void all(Sentences s) {
        newObject(s);
        row(s);
        lay(s);
        layRefused(s);
        at(s);
        atRefused(s);
        tear(s);
        copy(s);
        copyRefused(s);
        copyBeyond(s);
        mean(s);
        meanRefused(s);
    }

    /** A ROW of 40: 1, 2, .. 40. */
    private static SecondRoom withLongest(int r) {
        int[] values = new int[MOST];
        for (int i = 0; i < MOST; i++) {
            values[i] = i + 1;
        }
        return Checks.withRow(r, values);
    }

    private static void newObject(Sentences s) {
        String none = "No ROWS, TEXTS, GUESTS, THINGS.";
        s.of(1, none, "No ROWS", c -> {
            SecondRoom x = new SecondRoom();
            c.due("count(7)", x.count(7), 0);
            for (int r = 0; r < 6; r++) {
                int row = r;
                c.found("at(" + r + ", 0)", x, () -> x.at(row, 0), NOTHING);
            }
        });
        s.of(1, none, "TEXTS", c -> {
            SecondRoom x = new SecondRoom();
            c.due("count(8)", x.count(8), 0);
            for (int t = 0; t < 4; t++) {
                int text = t;
                c.found("fault(" + t + ")", x, () -> x.fault(text), NOTHING);
            }
        });
        s.of(1, none, "GUESTS", c -> {
            SecondRoom x = new SecondRoom();
            c.due("count(0)", x.count(0), 0);
            c.refused("guest(0, 0)", x, () -> x.guest(0, 0), BAD);
        });
        s.of(1, none, "THINGS", c -> {
            SecondRoom x = new SecondRoom();
            c.due("count(2)", x.count(2), 0);
            c.refused("odds(0, 0)", x, () -> x.odds(0, 0), BAD);
        });
    }

    private static void row(Sentences s) {
        s.of(2, "A ROW is there with n ints 0: n.", c -> {
            SecondRoom x = new SecondRoom();
            c.due("row(0, 0), the least", x.row(0, 0), 0);
            c.rowIs("row(0, 0)", x, 0);
            c.due("an empty ROW is there", x.count(7), 1);
            c.due("row(5, 40), the most", x.row(5, MOST), MOST);
            c.rowIs("row(5, 40)", x, 5, new int[MOST]);
            c.due("row(1, 1)", x.row(1, 1), 1);
            x.lay(1, 0, 9);
            c.due("row(1, 0) anew", x.row(1, 0), 0);
            c.rowIs("row(1, 0) anew", x, 1);
            c.due("row(1, 2) anew", x.row(1, 2), 2);
            c.rowIs("row(1, 2) anew", x, 1, 0, 0);
        });
        String refused = "BAD: also n above 40; SIZE: below 0.";
        s.of(2, refused, "BAD", c -> {
            SecondRoom x = new SecondRoom();
            c.badOutside("row(.., 1)", x, r -> x.row(r, 1), 0, 5);
            c.badOutside("row(.., -1), SIZE as well", x, r -> x.row(r, -1), 0, 5);
        });
        s.of(2, refused, "also n above 40", c -> {
            SecondRoom x = Checks.withRow(0, 7);
            c.refused("row(0, 41)", x, () -> x.row(0, 41), BAD);
            c.refused("row(1, MAX)", x, () -> x.row(1, MAX), BAD);
            c.due("row(0, 40)", x.row(0, 40), 40);
        });
        s.of(2, refused, "SIZE: below 0", c -> {
            SecondRoom x = Checks.withRow(0, 7);
            c.found("row(0, -1)", x, () -> x.row(0, -1), SIZE);
            c.found("row(1, MIN)", x, () -> x.row(1, MIN), SIZE);
            c.due("row(0, 0)", x.row(0, 0), 0);
        });
    }

    private static void lay(Sentences s) {
        s.of(3, "Place i of a ROW is v: what it was, told by asked(): 1.", c -> {
            SecondRoom x = withLongest(2);
            c.due("lay(2, 0, MIN), the first", x, x.lay(2, 0, MIN), 1, 1);
            c.due("lay(2, 39, MAX), the last", x, x.lay(2, 39, MAX), 1, 40);
            c.due("at(2, 0)", x, x.at(2, 0), 1, MIN);
            c.due("at(2, 39)", x, x.at(2, 39), 1, MAX);
            c.due("at(2, 1), the next one", x, x.at(2, 1), 1, 2);
            c.due("at(2, 38), the one ahead", x, x.at(2, 38), 1, 39);
            x.row(3, 1);
            c.due("lay(3, 0, 0), as it is", x, x.lay(3, 0, 0), 1, 0);
            c.due("lay(3, 0, -1)", x, x.lay(3, 0, -1), 1, 0);
            c.due("lay(3, 0, 5)", x, x.lay(3, 0, 5), 1, -1);
        });
    }

    private static void layRefused(Sentences s) {
        String refused = "BAD; NOTHING; BEYOND.";
        s.of(3, refused, "BAD", c -> {
            SecondRoom x = Checks.withRow(0, 7);
            c.badOutside("lay(.., 0, 1)", x, r -> x.lay(r, 0, 1), 0, 5);
        });
        s.of(3, refused, "NOTHING", c -> {
            SecondRoom x = Checks.withRow(0, 7);
            c.found("lay(1, 0, 1)", x, () -> x.lay(1, 0, 1), NOTHING);
            c.found("lay(5, -1, 1), BEYOND as well", x, () -> x.lay(5, -1, 1), NOTHING);
            x.tear(0);
            c.found("lay(0, 0, 1), torn", x, () -> x.lay(0, 0, 1), NOTHING);
        });
        s.of(3, refused, "BEYOND", c -> {
            SecondRoom x = Checks.withRow(0, 7, 8);
            int[] beyond = {-1, 2, MOST, MIN, MAX};
            for (int i : beyond) {
                c.found("lay(0, " + i + ", 1) of two", x, () -> x.lay(0, i, 1), BEYOND);
            }
            x.row(1, 0);
            c.found("lay(1, 0, 1), an empty ROW", x, () -> x.lay(1, 0, 1), BEYOND);
            SecondRoom longest = withLongest(4);
            c.found("lay(4, 40, 1) of 40", longest, () -> longest.lay(4, MOST, 1), BEYOND);
        });
    }

    private static void at(Sentences s) {
        s.of(4, "Place i of a ROW, told by asked(): 1.", c -> {
            SecondRoom x = withLongest(5);
            c.due("at(5, 0), the first", x, x.at(5, 0), 1, 1);
            c.due("at(5, 39), the last", x, x.at(5, 39), 1, 40);
            Checks.fill(x, 0, MIN);
            c.due("at(0, 0) of one", x, x.at(0, 0), 1, MIN);
            c.due("at(0, 0) changes nothing", x, x.at(0, 0), 1, MIN);
        });
    }

    private static void atRefused(Sentences s) {
        String refused = "BAD; NOTHING; BEYOND.";
        s.of(4, refused, "BAD", c -> {
            SecondRoom x = Checks.withRow(0, 7);
            c.badOutside("at(.., 0)", x, r -> x.at(r, 0), 0, 5);
        });
        s.of(4, refused, "NOTHING", c -> {
            SecondRoom x = Checks.withRow(0, 7);
            c.found("at(1, 0)", x, () -> x.at(1, 0), NOTHING);
            c.found("at(5, -1), BEYOND as well", x, () -> x.at(5, -1), NOTHING);
            x.tear(0);
            c.found("at(0, 0), torn", x, () -> x.at(0, 0), NOTHING);
        });
        s.of(4, refused, "BEYOND", c -> {
            SecondRoom x = Checks.withRow(0, 7, 8);
            int[] beyond = {-1, 2, MOST, MIN, MAX};
            for (int i : beyond) {
                c.found("at(0, " + i + ") of two", x, () -> x.at(0, i), BEYOND);
            }
            x.row(1, 0);
            c.found("at(1, 0), an empty ROW", x, () -> x.at(1, 0), BEYOND);
            SecondRoom longest = withLongest(4);
            c.found("at(4, 40) of 40", longest, () -> longest.at(4, MOST), BEYOND);
        });
    }

    private static void tear(Sentences s) {
        s.of(5, "A ROW is missing: 1.", c -> {
            SecondRoom x = Checks.withRow(0, 7);
            Checks.fill(x, 5, 8);
            x.row(3, 0);
            c.due("tear(0)", x.tear(0), 1);
            c.due("count(7), two are left", x.count(7), 2);
            c.due("tear(3), an empty one", x.tear(3), 1);
            c.due("at(5, 0), another one", x, x.at(5, 0), 1, 8);
            c.due("tear(5)", x.tear(5), 1);
            c.due("digest() is as if never there", x.digest(), new SecondRoom().digest());
            x.row(0, 1);
            c.rowIs("row(0, 1) behind tear(0)", x, 0, 0);
        });
        s.of(5, "BAD; NOTHING.", "BAD", c -> {
            SecondRoom x = Checks.withRow(0, 7);
            c.badOutside("tear(..)", x, x::tear, 0, 5);
        });
        s.of(5, "BAD; NOTHING.", "NOTHING", c -> {
            SecondRoom x = Checks.withRow(0, 7);
            c.found("tear(5)", x, () -> x.tear(5), NOTHING);
            x.tear(0);
            c.found("tear(0) again", x, () -> x.tear(0), NOTHING);
        });
    }

    private static void copy(Sentences s) {
        String copied = "n places of a ROW, from one on, come to those of another one (perhaps itself) from one on, "
            + "as if taken ahead: 1.";
        s.of(6, copied, "n places of a ROW, from one on, come to those of another one", c -> {
            SecondRoom x = Checks.withRow(0, 1, 2, 3);
            Checks.fill(x, 5, 10, 20, 30, 40);
            c.due("copy(0, 0, 5, 1, 3), all to the end", x.copy(0, 0, 5, 1, 3), 1);
            c.rowIs("copy(0, 0, 5, 1, 3)", x, 5, 10, 1, 2, 3);
            c.due("copy(0, 2, 5, 0, 1), the last to the first", x.copy(0, 2, 5, 0, 1), 1);
            c.rowIs("copy(0, 2, 5, 0, 1)", x, 5, 3, 1, 2, 3);
            c.rowIs("what was copied stays", x, 0, 1, 2, 3);
            c.due("copy(0, 1, 5, 1, 0), none", x.copy(0, 1, 5, 1, 0), 1);
            c.due("copy(0, 3, 5, 4, 0), none at both ends", x.copy(0, 3, 5, 4, 0), 1);
            c.rowIs("copied none", x, 5, 3, 1, 2, 3);
            x.row(1, 0);
            c.due("copy(1, 0, 1, 0, 0), none of an empty ROW", x.copy(1, 0, 1, 0, 0), 1);
        });
        s.of(6, copied, "n places of a ROW, from one on, come to those of another one", c -> {
            SecondRoom x = withLongest(0);
            x.row(1, MOST);
            c.due("copy(0, 0, 1, 0, 40), as many as can be", x.copy(0, 0, 1, 0, MOST), 1);
            c.due("at(1, 0)", x, x.at(1, 0), 1, 1);
            c.due("at(1, 39)", x, x.at(1, 39), 1, 40);
        });
        s.of(6, copied, "(perhaps itself) from one on, as if taken ahead: 1.", c -> {
            SecondRoom x = Checks.withRow(0, 1, 2, 3, 4);
            c.due("copy(0, 0, 0, 1, 3), onwards", x.copy(0, 0, 0, 1, 3), 1);
            c.rowIs("onwards", x, 0, 1, 1, 2, 3);
            Checks.fill(x, 1, 1, 2, 3, 4);
            c.due("copy(1, 1, 1, 0, 3), back", x.copy(1, 1, 1, 0, 3), 1);
            c.rowIs("back", x, 1, 2, 3, 4, 4);
            c.due("copy(1, 0, 1, 0, 4), onto itself", x.copy(1, 0, 1, 0, 4), 1);
            c.rowIs("onto itself", x, 1, 2, 3, 4, 4);
        });
    }

    private static final String COPY_REFUSED = "BAD; SIZE: n below 0; NOTHING: either; BEYOND: not so many there.";

    private static void copyRefused(Sentences s) {
        s.of(6, COPY_REFUSED, "BAD", c -> {
            SecondRoom x = Checks.withRow(0, 7);
            c.badOutside("copy(.., 0, 0, 0, 1)", x, r -> x.copy(r, 0, 0, 0, 1), 0, 5);
            c.badOutside("copy(0, 0, .., 0, 1)", x, to -> x.copy(0, 0, to, 0, 1), 0, 5);
            c.refused("copy(6, 0, 0, 0, -1), SIZE as well", x, () -> x.copy(6, 0, 0, 0, -1), BAD);
            c.refused("copy(1, 0, 6, 0, 1), NOTHING as well", x, () -> x.copy(1, 0, 6, 0, 1), BAD);
        });
        s.of(6, COPY_REFUSED, "SIZE: n below 0", c -> {
            SecondRoom x = Checks.withRow(0, 7);
            c.found("copy(0, 0, 0, 0, -1)", x, () -> x.copy(0, 0, 0, 0, -1), SIZE);
            c.found("copy(0, 0, 0, 0, MIN)", x, () -> x.copy(0, 0, 0, 0, MIN), SIZE);
            c.found("copy(1, 9, 2, 9, -1), all as well", x, () -> x.copy(1, 9, 2, 9, -1), SIZE);
        });
        s.of(6, COPY_REFUSED, "NOTHING: either", c -> {
            SecondRoom x = Checks.withRow(0, 7);
            c.found("copy(1, 0, 0, 0, 1)", x, () -> x.copy(1, 0, 0, 0, 1), NOTHING);
            c.found("copy(0, 0, 1, 0, 1)", x, () -> x.copy(0, 0, 1, 0, 1), NOTHING);
            c.found("copy(1, 0, 2, 0, 0), both, none copied", x, () -> x.copy(1, 0, 2, 0, 0), NOTHING);
            c.found("copy(0, 5, 1, 5, 9), BEYOND as well", x, () -> x.copy(0, 5, 1, 5, 9), NOTHING);
        });
    }

    private static void copyBeyond(Sentences s) {
        s.of(6, COPY_REFUSED, "BEYOND: not so many there", c -> {
            SecondRoom x = Checks.withRow(0, 1, 2, 3);
            Checks.fill(x, 1, 4, 5);
            int[][] beyond = {{0, 0, 3}, {2, 0, 2}, {3, 0, 1}, {0, 1, 2}, {0, 2, 1}, {-1, 0, 1}, {0, -1, 1},
                {-1, 0, 0}, {0, -1, 0}, {4, 0, 0}, {0, 3, 0}};
            for (int[] b : beyond) {
                String call = "copy(0, " + b[0] + ", 1, " + b[1] + ", " + b[2] + ")";
                c.found(call, x, () -> x.copy(0, b[0], 1, b[1], b[2]), BEYOND);
            }
        });
        s.of(6, COPY_REFUSED, "BEYOND: not so many there", c -> {
            SecondRoom x = Checks.withRow(0, 1, 2, 3);
            int[][] wrapping = {{1, 1, MAX}, {0, 0, MAX}, {MAX, 0, 1}, {0, MAX, 1}, {MAX, MAX, MAX}, {MIN, 0, 1},
                {0, MIN, 1}, {MAX, 0, 0}, {MIN, MIN, MAX}};
            for (int[] b : wrapping) {
                String call = "copy(0, " + b[0] + ", 0, " + b[1] + ", " + b[2] + "), beyond an int if added";
                c.found(call, x, () -> x.copy(0, b[0], 0, b[1], b[2]), BEYOND);
            }
        });
    }

    private static void meanIs(Checks c, int mean, int... values) {
        SecondRoom x = Checks.withRow(3, values);
        c.due("mean of " + values.length + " ints, the first " + values[0], x, x.mean(3), 1, mean);
    }

    private static int[] fortyOf(int v) {
        int[] values = new int[MOST];
        Arrays.fill(values, v);
        return values;
    }

    private static void mean(Sentences s) {
        s.of(7, "The mean of a ROW's ints, cut, told by asked(): 1.", c -> {
            meanIs(c, 7, 7);
            meanIs(c, 1, 0, 3);
            meanIs(c, -1, 0, -3);
            meanIs(c, 2, 1, 2, 5);
            meanIs(c, -3, -3, -4);
            meanIs(c, 0, 0, 0, 2);
            meanIs(c, 0, 0, 0, -2);
            meanIs(c, 0, -1, 1);
        });
        s.of(7, "The mean of a ROW's ints, cut, told by asked(): 1.", c -> {
            meanIs(c, MAX, fortyOf(MAX));
            meanIs(c, MIN, fortyOf(MIN));
            meanIs(c, MAX, MAX, MAX);
            meanIs(c, MIN, MIN, MIN);
            meanIs(c, 0, MIN, MAX);
            meanIs(c, MIN, MIN);
        });
        s.of(7, "The mean of a ROW's ints, cut, told by asked(): 1.", c -> {
            SecondRoom x = Checks.withRow(0, fortyOf(4));
            Checks.fill(x, 1, 4000);
            c.due("mean(0) of 40, another ROW behind it", x, x.mean(0), 1, 4);
            Checks.fill(x, 0, 7);
            c.due("mean(0), 39 places that are no more", x, x.mean(0), 1, 7);
        });
    }

    private static void meanRefused(Sentences s) {
        s.of(7, "BAD; NOTHING; NOUGHT.", "BAD", c -> {
            SecondRoom x = Checks.withRow(0, 7);
            c.badOutside("mean(..)", x, x::mean, 0, 5);
        });
        s.of(7, "BAD; NOTHING; NOUGHT.", "NOTHING", c -> {
            SecondRoom x = Checks.withRow(0, 7);
            c.found("mean(5)", x, () -> x.mean(5), NOTHING);
            x.tear(0);
            c.found("mean(0), torn", x, () -> x.mean(0), NOTHING);
        });
        s.of(7, "BAD; NOTHING; NOUGHT.", "NOUGHT", c -> {
            SecondRoom x = Checks.withRow(0, 7);
            x.mean(0);
            x.row(5, 0);
            c.found("mean(5), an empty ROW", x, () -> x.mean(5), NOUGHT);
        });
    }
}
