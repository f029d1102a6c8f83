/** Promises 12 to 14: guest, mark, turn; and the SECOND's LIFE of each KIND. */
public final class GuestsTest {
    private static final int BAD = SecondRoom.BAD, STATE = SecondRoom.STATE;
    private static final int UNLIKE = 3;
    private static final Checks c = new Checks("GuestsTest");

    /** The SECOND's LIVES of a GUEST for its TURN 0, 1, .. */
    private static void seconds(String guest, int turns, int... lives) {
        SecondRoom x = Checks.hotelOf("n" + turns + guest + "0o0000");
        for (int k = 0; k < turns; k++) {
            x.turn(0, k);
            c.due("the SECOND of " + guest + " by TURN " + k, x, x.guest(0, 3), 1, lives[k]);
        }
    }

    private static void secondsOfKinds() {
        seconds("g101", 3, 4, 7, 1);
        seconds("g00", 2, 1, 2);
        seconds("s101", 3, 2, 3, 1);
        seconds("s000000", 6, 63, 62, 60, 56, 48, 32);
        seconds("l101", 3, 2, 2, 0);
        seconds("l000000", 6, 63, 63, 61, 57, 49, 33);
        seconds("c111", 3, 0, 1, 3);
        seconds("c000", 3, 1, 2, 4);
        seconds("c101", 3, 0, 3, 1);
        seconds("p100", 3, 4, 7, 5);
        seconds("p011", 3, 3, 0, 2);
        seconds("p00", 2, 1, 0);
        seconds("u100", 3, 5, 7, 5);
        seconds("u011", 3, 2, 0, 2);
        seconds("u10", 2, 3, 3);
    }

    private static void guest() {
        SecondRoom x = Checks.hotelOf("n3 g1011s0111c1111p1000u0110 o0111");
        int[][] due = {{0, 1, 5, 7}, {1, 1, 6, 0}, {2, 1, 7, 1}, {3, 0, 1, 4}, {5, 0, 6, 2}};
        for (int g = 0; g < due.length; g++) {
            for (int what = 0; what < 8; what++) {
                int want = what < 4 ? due[g][what] : 0;
                c.due("guest(" + g + ", " + what + ")", x, x.guest(g, what), 1, want);
            }
        }
        SecondRoom y = Checks.hotelOf("n2 l011 o0000");
        c.due("a COLONEL's KIND", y, y.guest(0, 0), 1, 4);
        x.use(1);
        x.change(1);
        x.use(1);
        x.use(1);
        x.lock(1, 1);
        int[] then = {1, 1, 6, 0, 1, 1, 1, 2};
        for (int what = 0; what < 8; what++) {
            c.due("then guest(1, " + what + ")", x, x.guest(1, what), 1, then[what]);
            c.due("then guest(2, " + what + ")", x.guest(2, what), 1);
        }
        c.due("the next GUEST's door", x, x.guest(2, 5), 1, 0);
        c.refused("guest(5, 0)", x, () -> x.guest(5, 0), BAD);
        c.refused("guest(-1, 0)", x, () -> x.guest(-1, 0), BAD);
        c.refused("guest(0, 8)", x, () -> x.guest(0, 8), BAD);
        c.refused("guest(0, -1)", x, () -> x.guest(0, -1), BAD);
        SecondRoom none = new SecondRoom();
        c.refused("guest(0, 0), no GUESTS", none, () -> none.guest(0, 0), BAD);
    }

    private static void mark() {
        SecondRoom x = Checks.hotelOf("n3 g1011s0111c1110p1000u1101 o0101o2020o1111");
        c.due("mark of a SOLDIER", x.mark(1, 1), 2);
        c.due("mark of a CLERK", x.mark(2, 2), 2);
        x.turn(2, 1);
        c.due("mark of a CLERK, TURN 1", x.mark(2, 2), 1);
        x.turn(2, 2);
        c.due("mark of a CLERK, TURN 2", x.mark(2, 2), 0);
        c.due("mark of a PRIEST", x.mark(3, 3), 0);
        x.lock(3, 1);
        c.due("mark of a PRIEST, LOCKED", x.mark(3, 3), 1);
        c.due("mark of a CURATE as PRIEST", x.mark(4, 3), 0);
        x.lock(4, 1);
        c.due("mark of a CURATE as PRIEST, LOCKED", x.mark(4, 3), 1);
        c.due("mark of a CURATE", x.mark(4, 5), 1);
        SecondRoom more = Checks.hotelOf("n3 u1101 o0101o2121o1010");
        c.due("mark of a CURATE, more in ROOM 1", more.mark(0, 5), 1);
        int[][] unlike = {{0, 1}, {0, 2}, {0, 3}, {0, 4}, {0, 5}, {1, 2}, {1, 3}, {1, 4}, {1, 5}, {2, 1}, {2, 3},
            {3, 1}, {3, 2}, {3, 5}, {4, 1}, {4, 2}, {4, 4}};
        for (int[] u : unlike) {
            c.found("mark(" + u[0] + ", " + u[1] + ")", x, () -> x.mark(u[0], u[1]), UNLIKE);
        }
        c.refused("mark(0, 0)", x, () -> x.mark(0, 0), BAD);
        c.refused("mark(0, 6)", x, () -> x.mark(0, 6), BAD);
        c.refused("mark(0, -1)", x, () -> x.mark(0, -1), BAD);
        c.refused("mark(5, 1)", x, () -> x.mark(5, 1), BAD);
        c.refused("mark(-1, 1)", x, () -> x.mark(-1, 1), BAD);
        SecondRoom y = Checks.hotelOf("n3 l1102 l0100 s1110 c0000 o0101");
        c.due("mark of a COLONEL as SOLDIER", y.mark(0, 1), 2);
        c.due("mark of another COLONEL as SOLDIER", y.mark(1, 1), 3);
        c.due("mark of a COLONEL", y.mark(0, 4), 2);
        c.found("mark of a SOLDIER as COLONEL", y, () -> y.mark(2, 4), UNLIKE);
        SecondRoom alone = Checks.hotelOf("n2 l000 g000 o0000");
        c.due("mark of a COLONEL, no other SOLDIERS", alone.mark(0, 4), 0);
    }

    private static void turn() {
        SecondRoom x = Checks.hotelOf("n3 g1011 g0000 o0111");
        c.due("turn(0, 2)", x.turn(0, 2), 1);
        c.due("turn(0, 2) again", x.turn(0, 2), 2);
        c.due("its TURN", x, x.guest(0, 1), 1, 2);
        c.due("its SECOND's LIFE", x, x.guest(0, 3), 1, 1);
        c.due("the other's TURN", x, x.guest(1, 1), 1, 0);
        c.refused("turn(0, 3)", x, () -> x.turn(0, 3), BAD);
        c.refused("turn(0, -1)", x, () -> x.turn(0, -1), BAD);
        c.refused("turn(2, 0)", x, () -> x.turn(2, 0), BAD);
        c.refused("turn(-1, 0)", x, () -> x.turn(-1, 0), BAD);
        x.use(1);
        c.refused("turn(0, 0) with a DEED", x, () -> x.turn(0, 0), STATE);
        c.refused("turn(0, 3) with a DEED: BAD first", x, () -> x.turn(0, 3), BAD);
        x.undo(0);
        c.due("turn(0, 0), undone", x.turn(0, 0), 2);
    }

    public static void main(String[] args) {
        secondsOfKinds();
        guest();
        mark();
        turn();
        c.end();
    }
}
