/** Promises 15 to 20: change, lock, use, undo, keep, on. */
final class DeedsSentences {
    private static final int STATE = SecondRoom.STATE, FULL = SecondRoom.FULL, BAD = SecondRoom.BAD;
    private static final int NOTHING = 1;
    private static final String FIVE = "n2 g000 s010 c101 p110 u000 o0101";

    private DeedsSentences() {
    }

    static void all(Sentences s) {
        change(s);
        changeRefused(s);
        lock(s);
        lockRefused(s);
        use(s);
        undo(s);
        undoRefused(s);
        keep(s);
        keepRefused(s);
        on(s);
        onRefused(s);
    }

    private static SecondRoom none() {
        return new SecondRoom();
    }

    /** GUEST 4 has USED ROOM 0 so often. */
    private static SecondRoom withDeeds(int deeds) {
        SecondRoom x = Checks.hotelOf(FIVE);
        Checks.use(x, 4, deeds);
        return x;
    }

    private static void change(Sentences s) {
        s.of(15, "A GUEST changes over: the ROOM then.", c -> {
            SecondRoom x = Checks.hotelOf(FIVE);
            c.due("change(0)", x.change(0), 1);
            c.due("change(4)", x.change(4), 1);
            c.stateIs("two IN ROOM 1", x, 2, 17, 0);
            c.due("change(0) back", x.change(0), 0);
            c.stateIs("one IN ROOM 1", x, 3, 16, 0);
        });
    }

    private static void changeRefused(Sentences s) {
        String refused = "BAD; STATE: its door is LOCKED; FULL: 60 DEEDS.";
        s.of(15, refused, "BAD", c -> {
            SecondRoom x = Checks.hotelOf(FIVE);
            c.badOutside("change(..)", x, x::change, 0, 4);
            Checks.use(x, 0, 60);
            c.badOutside("change(..), 60 DEEDS", x, x::change, 0, 4);
            SecondRoom none = none();
            c.refused("change(0), no GUESTS", none, () -> none.change(0), BAD);
        });
        s.of(15, refused, "STATE: its door is LOCKED", c -> {
            SecondRoom x = Checks.hotelOf(FIVE);
            x.lock(0, 1);
            c.refused("change(0), LOCKED", x, () -> x.change(0), STATE);
            c.due("change(1), another's is LOCKED", x.change(1), 1);
            x.lock(1, 1);
            c.refused("change(1) back, LOCKED", x, () -> x.change(1), STATE);
            x.lock(1, 0);
            c.due("change(1) back, opened", x.change(1), 0);
        });
        s.of(15, refused, "FULL: 60 DEEDS.", c -> {
            SecondRoom x = withDeeds(59);
            c.due("change(0), the 60th", x.change(0), 1);
            c.refused("change(0), the 61st", x, () -> x.change(0), FULL);
            c.refused("change(4), the 61st", x, () -> x.change(4), FULL);
        });
        s.of(15, "(FULL last.)", c -> {
            SecondRoom x = withDeeds(59);
            x.lock(0, 1);
            c.refused("change(0), LOCKED, 60 DEEDS", x, () -> x.change(0), STATE);
            c.refused("change(1), 60 DEEDS", x, () -> x.change(1), FULL);
        });
    }

    private static void lock(Sentences s) {
        s.of(16, "A door is LOCKED (1), opened (0): how many are LOCKED then.", c -> {
            SecondRoom x = Checks.hotelOf(FIVE);
            for (int g = 0; g < 5; g++) {
                c.due("lock(" + g + ", 1)", x.lock(g, 1), g + 1);
            }
            c.stateIs("all LOCKED", x, 5, 0, 31);
            for (int g = 0; g < 5; g++) {
                c.due("lock(" + g + ", 0)", x.lock(g, 0), 4 - g);
            }
            c.stateIs("all opened", x, 10, 0, 0);
        });
    }

    private static void lockRefused(Sentences s) {
        String refused = "BAD; STATE: it is so; FULL.";
        s.of(16, refused, "BAD", c -> {
            SecondRoom x = Checks.hotelOf(FIVE);
            c.badOutside("lock(.., 1)", x, g -> x.lock(g, 1), 0, 4);
            c.badOutside("lock(.., 0), not LOCKED", x, g -> x.lock(g, 0), 0, 4);
            c.badOutside("lock(0, ..)", x, is -> x.lock(0, is), 0, 1);
            SecondRoom none = none();
            c.refused("lock(0, 1), no GUESTS", none, () -> none.lock(0, 1), BAD);
        });
        s.of(16, refused, "STATE: it is so", c -> {
            SecondRoom x = Checks.hotelOf(FIVE);
            c.refused("lock(4, 0), never LOCKED", x, () -> x.lock(4, 0), STATE);
            x.lock(4, 1);
            c.refused("lock(4, 1), LOCKED", x, () -> x.lock(4, 1), STATE);
            x.lock(4, 0);
            c.refused("lock(4, 0), opened", x, () -> x.lock(4, 0), STATE);
        });
        s.of(16, refused, "FULL.", c -> {
            SecondRoom x = withDeeds(59);
            c.due("lock(0, 1), the 60th", x.lock(0, 1), 1);
            c.refused("lock(0, 0), the 61st", x, () -> x.lock(0, 0), FULL);
            c.refused("lock(1, 1), the 61st", x, () -> x.lock(1, 1), FULL);
            c.refused("lock(1, 2), BAD as well", x, () -> x.lock(1, 2), BAD);
        });
        s.of(16, "(FULL last.)", c -> {
            SecondRoom x = withDeeds(59);
            x.lock(0, 1);
            c.refused("lock(0, 1), LOCKED, 60 DEEDS", x, () -> x.lock(0, 1), STATE);
            c.refused("lock(1, 0), open, 60 DEEDS", x, () -> x.lock(1, 0), STATE);
        });
    }

    private static void use(Sentences s) {
        s.of(17, "A GUEST USES its ROOM for an HOUR: HOURS of that ROOM then.", c -> {
            SecondRoom x = Checks.hotelOf(FIVE);
            c.due("use(0)", x.use(0), 1);
            c.due("use(0) again", x.use(0), 2);
            x.change(0);
            c.due("use(0) IN ROOM 1", x.use(0), 1);
            x.lock(0, 1);
            c.due("use(0), LOCKED", x.use(0), 2);
            c.due("use(4)", x.use(4), 1);
            c.stateIs("USED", x, 7, 1, 1, 2, 2, 0, 0, 0, 0, 0, 0, 1, 0);
        });
        s.of(17, "BAD; FULL.", "BAD", c -> {
            SecondRoom x = withDeeds(60);
            c.badOutside("use(..), 60 DEEDS", x, x::use, 0, 4);
            x.undo(0);
            c.badOutside("use(..)", x, x::use, 0, 4);
            SecondRoom none = none();
            c.refused("use(0), no GUESTS", none, () -> none.use(0), BAD);
        });
        s.of(17, "BAD; FULL.", "FULL.", c -> {
            SecondRoom x = withDeeds(59);
            c.due("use(4), the 60th", x.use(4), 60);
            c.refused("use(4), the 61st", x, () -> x.use(4), FULL);
            c.refused("use(0), the 61st", x, () -> x.use(0), FULL);
            x.undo(59);
            c.due("use(0), the 60th again", x.use(0), 1);
        });
    }

    /** GUEST 0 USES, changes over, USES, LOCKS, opens, changes over, USES: 7 DEEDS. */
    private static SecondRoom withSeven() {
        SecondRoom x = Checks.hotelOf(FIVE);
        x.use(0);
        x.change(0);
        x.use(0);
        x.lock(0, 1);
        x.lock(0, 0);
        x.change(0);
        x.use(0);
        return x;
    }

    private static void undo(Sentences s) {
        String undone = "DEEDS from number n on are undone: how many.";
        s.of(18, undone, c -> {
            int[][] due = {{0, 0, 0, 0}, {0, 0, 1, 0}, {1, 0, 1, 0}, {1, 0, 1, 1}, {1, 1, 1, 1}, {1, 0, 1, 1},
                {0, 0, 1, 1}, {0, 0, 2, 1}};
            for (int n = 0; n <= 7; n++) {
                SecondRoom x = withSeven();
                c.due("undo(" + n + ") of 7", x.undo(n), 7 - n);
                c.stateIs("undo(" + n + ")", x, n, due[n][0], due[n][1], due[n][2], due[n][3]);
            }
        });
        s.of(18, undone, c -> {
            SecondRoom x = Checks.hotelOf(FIVE);
            c.due("undo(0) of none", x.undo(0), 0);
            Checks.use(x, 0, 60);
            c.due("undo(60) of 60", x.undo(60), 0);
            c.due("undo(59) of 60", x.undo(59), 1);
            c.due("undo(0) of 59", x.undo(0), 59);
            c.stateIs("all undone", x, 0, 0, 0, 0, 0);
            c.due("undo(0) once more", x.undo(0), 0);
            c.due("undo(0), no GUESTS", none().undo(0), 0);
        });
    }

    private static void undoRefused(Sentences s) {
        s.of(18, "BAD.", c -> {
            SecondRoom x = withSeven();
            c.badOutside("undo(..) of 7", x, x::undo, 0, 7);
            SecondRoom full = withDeeds(60);
            c.badOutside("undo(..) of 60", full, full::undo, 0, 60);
            SecondRoom none = none();
            c.badOutside("undo(..), no GUESTS", none, none::undo, 0, 0);
        });
    }

    private static void keep(Sentences s) {
        s.of(19, "The HOTEL (as it is, TURNS of GUESTS, DEEDS) is kept in a place (0 .. 2): how many DEEDS.", c -> {
            SecondRoom x = Checks.hotelOf(FIVE);
            x.turn(4, 1);
            c.due("keep(0), no DEEDS", x.keep(0), 0);
            x.turn(4, 0);
            Checks.use(x, 0, 60);
            c.due("keep(2), 60 DEEDS", x.keep(2), 60);
            x.undo(1);
            c.due("keep(1)", x.keep(1), 1);
            c.due("three are kept", x.count(9), 3);
            x.use(0);
            c.due("keep(1) anew", x.keep(1), 2);
            c.due("three are kept still", x.count(9), 3);
            c.due("the HOTEL goes on as it is", x.count(3), 2);
            c.due("on(0)", x.on(0), 0);
            c.due("on(0): its TURN", x, x.guest(4, 1), 1, 1);
            c.due("on(2)", x.on(2), 60);
            c.due("on(2): its TURN", x, x.guest(4, 1), 1, 0);
            c.due("on(1), kept anew", x.on(1), 2);
        });
    }

    private static void keepRefused(Sentences s) {
        s.of(19, "BAD; STATE: no GUESTS.", "BAD", c -> {
            SecondRoom x = withSeven();
            c.badOutside("keep(..)", x, x::keep, 0, 2);
            SecondRoom none = none();
            c.badOutside("keep(..), no GUESTS", none, none::keep, 0, 2);
        });
        s.of(19, "BAD; STATE: no GUESTS.", "STATE: no GUESTS.", c -> {
            SecondRoom none = none();
            c.refused("keep(0)", none, () -> none.keep(0), STATE);
            c.refused("keep(2)", none, () -> none.keep(2), STATE);
            c.due("none is kept", none.count(9), 0);
        });
    }

    private static void on(Sentences s) {
        s.of(20, "The HOTEL is as it was kept: how many DEEDS.", c -> {
            SecondRoom x = withSeven();
            x.undo(4);
            x.lock(1, 1);
            c.due("keep(2)", x.keep(2), 5);
            x.undo(0);
            x.turn(0, 1);
            x.turn(4, 1);
            Checks.use(x, 4, 60);
            c.due("on(2)", x.on(2), 5);
            c.stateIs("on(2)", x, 5, 1, 3, 1, 1, 0, 0, 0, 0, 0, 0, 0, 0);
            c.due("its TURN", x, x.guest(0, 1), 1, 0);
            c.due("the last's TURN", x, x.guest(4, 1), 1, 0);
            c.due("undo(1): the DEEDS are those kept", x.undo(1), 4);
            c.stateIs("undo(1)", x, 1, 0, 0, 1, 0, 0, 0);
            c.due("on(2) again", x.on(2), 5);
            c.stateIs("on(2) again", x, 5, 1, 3, 1, 1, 0, 0);
            c.due("it is kept still", x.count(9), 1);
        });
        s.of(20, "The HOTEL is as it was kept: how many DEEDS.", c -> {
            SecondRoom x = withDeeds(60);
            x.keep(0);
            x.undo(0);
            c.due("on(0), 60 DEEDS", x.on(0), 60);
            c.refused("use(0), full as it was", x, () -> x.use(0), FULL);
            SecondRoom y = Checks.hotelOf(FIVE);
            y.keep(1);
            Checks.use(y, 0, 60);
            c.due("on(1), no DEEDS", y.on(1), 0);
            c.due("turn(0, 1), there are none", y.turn(0, 1), 0);
        });
    }

    private static void onRefused(Sentences s) {
        s.of(20, "BAD; NOTHING.", "BAD", c -> {
            SecondRoom x = withSeven();
            x.keep(0);
            c.badOutside("on(..)", x, x::on, 0, 2);
        });
        s.of(20, "BAD; NOTHING.", "NOTHING.", c -> {
            SecondRoom x = withSeven();
            x.keep(1);
            c.found("on(0), never kept", x, () -> x.on(0), NOTHING);
            c.found("on(2), never kept", x, () -> x.on(2), NOTHING);
            x.hotel(0);
            c.found("on(1), gone by hotel(0)", x, () -> x.on(1), NOTHING);
            SecondRoom none = none();
            c.found("on(0), no GUESTS", none, () -> none.on(0), NOTHING);
        });
    }
}
