/** Promises 1 to 7: a new object, row, lay, at, tear, copy, mean. */
public final class RowsTest {
    private static final int BAD = SecondRoom.BAD;
    private static final int NOTHING = 1, BEYOND = 2, NOUGHT = 4, SIZE = 5;
    private static final Checks c = new Checks("RowsTest");

    private static void newObject() {
        SecondRoom x = new SecondRoom();
        for (int what = 0; what < 10; what++) {
            c.due("new, count(" + what + ")", x.count(what), 0);
        }
        for (int r = 0; r < 6; r++) {
            int row = r;
            c.found("new, at(" + r + ", 0)", x, () -> x.at(row, 0), NOTHING);
        }
        for (int t = 0; t < 4; t++) {
            int text = t;
            c.found("new, put(" + t + ", 0, 0)", x, () -> x.put(text, 0, 0), NOTHING);
        }
        SecondRoom y = new SecondRoom();
        c.due("new, asked()", y.asked(), 0);
        c.due("new, upper()", y.upper(), 0);
        c.due("new, lower()", y.lower(), 1);
        c.due("new, finding()", y.finding(), 0);
        for (int f = 1; f <= 5; f++) {
            c.due("new, findings(" + f + ")", y.findings(f), 0);
        }
    }

    private static void row() {
        SecondRoom x = new SecondRoom();
        c.due("row(0, 3)", x.row(0, 3), 3);
        c.rowIs("row(0, 3)", x, 0, 0, 0, 0);
        c.due("row(5, 40)", x.row(5, 40), 40);
        c.due("at(5, 39)", x, x.at(5, 39), 1, 0);
        c.due("row(1, 0)", x.row(1, 0), 0);
        c.due("count(7)", x.count(7), 3);
        x.lay(0, 1, 7);
        c.due("row(0, 2) anew", x.row(0, 2), 2);
        c.rowIs("row(0, 2) anew", x, 0, 0, 0);
        c.due("row(0, 3) anew", x.row(0, 3), 3);
        c.rowIs("row(0, 3) anew", x, 0, 0, 0, 0);
        c.refused("row(0, 41)", x, () -> x.row(0, 41), BAD);
        c.refused("row(6, 1)", x, () -> x.row(6, 1), BAD);
        c.refused("row(-1, 1)", x, () -> x.row(-1, 1), BAD);
        c.refused("row(6, -1)", x, () -> x.row(6, -1), BAD);
        c.refused("row(0, MAX)", x, () -> x.row(0, Integer.MAX_VALUE), BAD);
        c.found("row(0, -1)", x, () -> x.row(0, -1), SIZE);
        c.found("row(2, MIN)", x, () -> x.row(2, Integer.MIN_VALUE), SIZE);
    }

    private static void layAndAt() {
        SecondRoom x = Checks.withRow(2, 5, -6);
        Checks.fill(x, 3, 1, 2);
        c.due("lay(2, 1, 9)", x, x.lay(2, 1, 9), 1, -6);
        c.rowIs("lay(2, 1, 9)", x, 2, 5, 9);
        c.rowIs("lay(2, 1, 9), the next ROW", x, 3, 1, 2);
        c.due("lay(2, 0, MIN)", x, x.lay(2, 0, Integer.MIN_VALUE), 1, 5);
        c.due("at(2, 0)", x, x.at(2, 0), 1, Integer.MIN_VALUE);
        c.refused("lay(6, 0, 1)", x, () -> x.lay(6, 0, 1), BAD);
        c.refused("lay(-1, 0, 1)", x, () -> x.lay(-1, 0, 1), BAD);
        c.refused("at(6, 0)", x, () -> x.at(6, 0), BAD);
        c.refused("at(-1, -1)", x, () -> x.at(-1, -1), BAD);
        c.found("lay(0, 0, 1)", x, () -> x.lay(0, 0, 1), NOTHING);
        c.found("lay(0, -1, 1)", x, () -> x.lay(0, -1, 1), NOTHING);
        c.found("at(0, -1)", x, () -> x.at(0, -1), NOTHING);
        c.found("lay(2, 2, 1)", x, () -> x.lay(2, 2, 1), BEYOND);
        c.found("lay(2, -1, 1)", x, () -> x.lay(2, -1, 1), BEYOND);
        c.found("at(2, 2)", x, () -> x.at(2, 2), BEYOND);
        c.found("at(2, MIN)", x, () -> x.at(2, Integer.MIN_VALUE), BEYOND);
        c.found("at(2, MAX)", x, () -> x.at(2, Integer.MAX_VALUE), BEYOND);
        x.row(1, 0);
        c.found("at(1, 0), an empty ROW", x, () -> x.at(1, 0), BEYOND);
    }

    private static void tear() {
        SecondRoom x = Checks.withRow(4, 1, 2);
        c.due("tear(4)", x.tear(4), 1);
        c.due("count(7)", x.count(7), 0);
        c.due("digest() is as if never there", x.digest(), new SecondRoom().digest());
        c.found("at(4, 0)", x, () -> x.at(4, 0), NOTHING);
        c.found("tear(4) again", x, () -> x.tear(4), NOTHING);
        c.refused("tear(6)", x, () -> x.tear(6), BAD);
        c.refused("tear(-1)", x, () -> x.tear(-1), BAD);
        x.row(4, 2);
        c.rowIs("row(4, 2) behind tear(4)", x, 4, 0, 0);
    }

    private static void copy() {
        SecondRoom x = Checks.withRow(0, 1, 2, 3, 4, 5);
        Checks.fill(x, 1, 10, 20, 30);
        c.due("copy(0, 1, 1, 0, 2)", x.copy(0, 1, 1, 0, 2), 1);
        c.rowIs("copy(0, 1, 1, 0, 2)", x, 1, 2, 3, 30);
        c.due("copy(0, 0, 0, 1, 4)", x.copy(0, 0, 0, 1, 4), 1);
        c.rowIs("copied ahead within itself", x, 0, 1, 1, 2, 3, 4);
        c.due("copy(0, 2, 0, 1, 3)", x.copy(0, 2, 0, 1, 3), 1);
        c.rowIs("copied back within itself", x, 0, 1, 2, 3, 4, 4);
        c.due("copy(0, 5, 1, 3, 0), none at the end", x.copy(0, 5, 1, 3, 0), 1);
        c.rowIs("copy of none", x, 1, 2, 3, 30);
        c.refused("copy(6, 0, 0, 0, 1)", x, () -> x.copy(6, 0, 0, 0, 1), BAD);
        c.refused("copy(0, 0, 6, 0, -1)", x, () -> x.copy(0, 0, 6, 0, -1), BAD);
        c.refused("copy(-1, 0, 0, 0, 1)", x, () -> x.copy(-1, 0, 0, 0, 1), BAD);
        c.refused("copy(0, 0, -1, 0, 1)", x, () -> x.copy(0, 0, -1, 0, 1), BAD);
        c.found("copy(2, 9, 0, 0, -1): SIZE ahead of NOTHING", x, () -> x.copy(2, 9, 0, 0, -1), SIZE);
        c.found("copy(2, 9, 0, 0, 1): NOTHING ahead of BEYOND", x, () -> x.copy(2, 9, 0, 0, 1), NOTHING);
        c.found("copy(0, 0, 2, 0, 0)", x, () -> x.copy(0, 0, 2, 0, 0), NOTHING);
        c.found("copy(0, 3, 1, 0, 3)", x, () -> x.copy(0, 3, 1, 0, 3), BEYOND);
        c.found("copy(0, 0, 1, 1, 3)", x, () -> x.copy(0, 0, 1, 1, 3), BEYOND);
        c.found("copy(0, -1, 1, 0, 1)", x, () -> x.copy(0, -1, 1, 0, 1), BEYOND);
        c.found("copy(0, 0, 1, -1, 1)", x, () -> x.copy(0, 0, 1, -1, 1), BEYOND);
        c.found("copy(0, 6, 1, 0, 0)", x, () -> x.copy(0, 6, 1, 0, 0), BEYOND);
        c.found("copy(0, 0, 1, 4, 0)", x, () -> x.copy(0, 0, 1, 4, 0), BEYOND);
        c.found("copy(0, 1, 1, 1, MAX)", x, () -> x.copy(0, 1, 1, 1, Integer.MAX_VALUE), BEYOND);
        c.found("copy(0, MAX, 1, 0, 1)", x, () -> x.copy(0, Integer.MAX_VALUE, 1, 0, 1), BEYOND);
        c.found("copy(0, MIN, 1, 0, 1)", x, () -> x.copy(0, Integer.MIN_VALUE, 1, 0, 1), BEYOND);
    }

    private static void mean() {
        SecondRoom x = Checks.withRow(0, 1, 2, 5);
        c.due("mean of 1, 2, 5", x, x.mean(0), 1, 2);
        Checks.fill(x, 1, -3, -4);
        c.due("mean of -3, -4, cut", x, x.mean(1), 1, -3);
        Checks.fill(x, 2, Integer.MAX_VALUE, Integer.MAX_VALUE, Integer.MAX_VALUE);
        c.due("mean of thrice MAX", x, x.mean(2), 1, Integer.MAX_VALUE);
        Checks.fill(x, 2, Integer.MIN_VALUE, Integer.MIN_VALUE);
        c.due("mean of twice MIN", x, x.mean(2), 1, Integer.MIN_VALUE);
        x.row(3, 0);
        c.found("mean of an empty ROW", x, () -> x.mean(3), NOUGHT);
        c.found("mean of a missing ROW", x, () -> x.mean(4), NOTHING);
        c.refused("mean(6)", x, () -> x.mean(6), BAD);
        c.refused("mean(-1)", x, () -> x.mean(-1), BAD);
    }

    public static void main(String[] args) {
        newObject();
        row();
        layAndAt();
        tear();
        copy();
        mean();
        c.end();
    }
}
