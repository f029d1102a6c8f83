/** Promises 12 to 14: guest, mark, turn. */
final class GuestsSentences {
    private static final int STATE = SecondRoom.STATE;
    private static final int UNLIKE = 3;
    /** As many GUESTS as can be, all but one of the KINDS. */
    private static final String FIVE = "n3 s0111 c1111 p1000 l0012 u0110 o0111";

    private GuestsSentences() {
    }

    static void all(Sentences s) {
        guest(s);
        guestUsed(s);
        guestRefused(s);
        markOfSoldiers(s);
        markOfClerk(s);
        markOfPriests(s);
        markOfCurate(s);
        markRefused(s);
        turn(s);
        turnRefused(s);
    }

    private static final String GUEST = "Of a GUEST: 0 the KIND, 1 its TURN, 2 its LIFE, 3 the SECOND's LIFE, "
        + "4 the ROOM that it is IN, 5 whether its door is LOCKED (1, 0), 6 HOURS of ROOM 0, 7 of ROOM 1, "
        + "told by asked(): 1.";

    private static void tells(Checks c, SecondRoom x, int what, int... due) {
        for (int g = 0; g < due.length; g++) {
            c.due("guest(" + g + ", " + what + ")", x, x.guest(g, what), 1, due[g]);
        }
    }

    private static void guest(Sentences s) {
        s.of(12, GUEST, "Of a GUEST: 0 the KIND", c -> {
            tells(c, Checks.hotelOf(FIVE), 0, 1, 2, 3, 4, 5);
            tells(c, Checks.hotelOf("n2 g000 o0000"), 0, 0);
        });
        s.of(12, GUEST, "1 its TURN", c -> {
            SecondRoom x = Checks.hotelOf(FIVE);
            tells(c, x, 1, 1, 1, 0, 2, 0);
            x.turn(4, 2);
            x.turn(0, 0);
            tells(c, x, 1, 0, 1, 0, 2, 2);
        });
        s.of(12, GUEST, "2 its LIFE", c -> {
            SecondRoom x = Checks.hotelOf(FIVE);
            tells(c, x, 2, 6, 7, 1, 4, 6);
            x.turn(0, 0);
            tells(c, x, 2, 6, 7, 1, 4, 6);
        });
        s.of(12, GUEST, "3 the SECOND's LIFE", c -> {
            SecondRoom x = Checks.hotelOf(FIVE);
            tells(c, x, 3, 0, 1, 4, 1, 2);
            x.turn(0, 0);
            tells(c, x, 3, 1, 1, 4, 1, 2);
        });
    }

    private static void guestUsed(Sentences s) {
        s.of(12, GUEST, "4 the ROOM that it is IN", c -> {
            SecondRoom x = Checks.hotelOf(FIVE);
            tells(c, x, 4, 0, 0, 0, 0, 0);
            x.change(0);
            x.change(4);
            tells(c, x, 4, 1, 0, 0, 0, 1);
        });
        s.of(12, GUEST, "5 whether its door is LOCKED (1, 0)", c -> {
            SecondRoom x = Checks.hotelOf(FIVE);
            tells(c, x, 5, 0, 0, 0, 0, 0);
            x.lock(0, 1);
            x.lock(4, 1);
            tells(c, x, 5, 1, 0, 0, 0, 1);
            x.lock(4, 0);
            tells(c, x, 5, 1, 0, 0, 0, 0);
        });
        s.of(12, GUEST, "6 HOURS of ROOM 0", c -> {
            SecondRoom x = Checks.hotelOf(FIVE);
            tells(c, x, 6, 0, 0, 0, 0, 0);
            Checks.use(x, 4, 60);
            tells(c, x, 6, 0, 0, 0, 0, 60);
            tells(c, x, 7, 0, 0, 0, 0, 0);
        });
        s.of(12, GUEST, "7 of ROOM 1, told by asked(): 1.", c -> {
            SecondRoom x = Checks.usedBy(FIVE, 0, 0, 59);
            tells(c, x, 7, 59, 0, 0, 0, 0);
            tells(c, x, 6, 0, 0, 0, 0, 0);
        });
    }

    private static void guestRefused(Sentences s) {
        s.of(12, "BAD.", c -> {
            SecondRoom x = Checks.hotelOf(FIVE);
            x.guest(0, 2);
            c.badOutside("guest(.., 0)", x, g -> x.guest(g, 0), 0, 4);
            c.badOutside("guest(0, ..)", x, what -> x.guest(0, what), 0, 7);
            SecondRoom one = Checks.hotelOf("n2 g000 o0000");
            c.badOutside("guest(.., 7) of one", one, g -> one.guest(g, 7), 0, 0);
            SecondRoom none = new SecondRoom();
            c.badOutside("guest(.., 0) of none", none, g -> none.guest(g, 0), 0, -1);
        });
    }

    private static final String MARK = "What a GUEST that IS of a KIND tells: a SOLDIER (COLONEL, too) at how many "
        + "TURNS the SECOND chose otherwise, a CLERK how many choices 1 it made behind its TURN, "
        + "a PRIEST (CURATE, too) whether its door is LOCKED (1, 0), "
        + "a COLONEL how many other SOLDIERS (COLONELS, too) there are, a CURATE how many THINGS both its LIVES HAVE.";

    private static void markIs(Checks c, String text, int kind, int mark) {
        c.due("mark(0, " + kind + ") of " + text, Checks.hotelOf(text).mark(0, kind), mark);
    }

    private static void markOfSoldiers(Sentences s) {
        s.of(13, MARK, "What a GUEST that IS of a KIND tells: a SOLDIER (COLONEL, too) at how many TURNS "
            + "the SECOND chose otherwise", c -> {
            markIs(c, "n6 s0000000 o0000", 1, 6);
            markIs(c, "n6 s0000005 o0000", 1, 1);
            markIs(c, "n6 s1010103 o0000", 1, 3);
            markIs(c, "n6 l0000000 o0000", 1, 6);
            markIs(c, "n6 l1111115 o0000", 1, 2);
            markIs(c, "n2 s001 o0000", 1, 1);
            markIs(c, "n2 l001 o0000", 1, 2);
        });
        s.of(13, MARK, "a COLONEL how many other SOLDIERS (COLONELS, too) there are", c -> {
            markIs(c, "n2 l000 o0000", 4, 0);
            markIs(c, "n2 l000 g000 c000 p000 u000 o0000", 4, 0);
            markIs(c, "n2 l000 s000 g000 o0000", 4, 1);
            markIs(c, "n2 l000 l000 o0000", 4, 1);
            markIs(c, "n2 l000 l000 s000 s000 l000 o0000", 4, 4);
        });
    }

    private static void markOfClerk(Sentences s) {
        s.of(13, MARK, "a CLERK how many choices 1 it made behind its TURN", c -> {
            markIs(c, "n6 c1111110 o0000", 2, 5);
            markIs(c, "n6 c1111114 o0000", 2, 1);
            markIs(c, "n6 c1111115 o0000", 2, 0);
            markIs(c, "n6 c0000000 o0000", 2, 0);
            markIs(c, "n6 c1100002 o0000", 2, 0);
            markIs(c, "n6 c0010012 o0000", 2, 1);
            markIs(c, "n2 c010 o0000", 2, 1);
            markIs(c, "n2 c111 o0000", 2, 0);
        });
    }

    private static void markOfPriests(Sentences s) {
        s.of(13, MARK, "a PRIEST (CURATE, too) whether its door is LOCKED (1, 0)", c -> {
            SecondRoom x = Checks.hotelOf("n2 p000 u000 o0000");
            for (int g = 0; g < 2; g++) {
                c.due("mark(" + g + ", 3), not LOCKED", x.mark(g, 3), 0);
                x.lock(g, 1);
                c.due("mark(" + g + ", 3), LOCKED", x.mark(g, 3), 1);
                x.lock(g, 0);
                c.due("mark(" + g + ", 3), opened", x.mark(g, 3), 0);
                x.lock(1 - g, 1);
                c.due("mark(" + g + ", 3), another's LOCKED", x.mark(g, 3), 0);
                x.lock(1 - g, 0);
            }
        });
    }

    /** A CURATE whose LIFE is 1, the SECOND's 3. */
    private static void markOfCurate(Sentences s) {
        s.of(13, MARK, "a CURATE how many THINGS both its LIVES HAVE.", c -> {
            markIs(c, "n2u100o0101o0101o0101o0101o0101o0101o0101o0101", 5, 8);
            markIs(c, "n2 u100 o0000", 5, 0);
            markIs(c, "n2 u100 o1010 o0110", 5, 0);
            markIs(c, "n2 u100 o1111 o0111", 5, 0);
            markIs(c, "n2 u100 o1111 o0101 o1010", 5, 1);
        });
    }

    private static void markRefused(Sentences s) {
        String refused = "BAD: also KIND 0; UNLIKE.";
        s.of(13, refused, "BAD", c -> {
            SecondRoom x = Checks.hotelOf(FIVE);
            c.badOutside("mark(.., 1)", x, g -> x.mark(g, 1), 0, 4);
            c.badOutside("mark(0, ..)", x, kind -> x.mark(0, kind), 1, 5);
            c.badOutside("mark(.., 5), UNLIKE as well", x, g -> x.mark(g, 5), 0, 4);
        });
        s.of(13, refused, "also KIND 0", c -> {
            SecondRoom x = Checks.hotelOf("n2 g000 s000 o0000");
            c.refused("mark(0, 0) of a GUEST", x, () -> x.mark(0, 0), SecondRoom.BAD);
            c.refused("mark(1, 0) of a SOLDIER", x, () -> x.mark(1, 0), SecondRoom.BAD);
        });
        s.of(13, refused, "UNLIKE.", c -> {
            unlike(c, Checks.hotelOf("n2 g000 o0000"), 0, 1, 2, 3, 4, 5);
            SecondRoom x = Checks.hotelOf(FIVE);
            unlike(c, x, 0, 2, 3, 4, 5);
            unlike(c, x, 1, 1, 3, 4, 5);
            unlike(c, x, 2, 1, 2, 4, 5);
            unlike(c, x, 3, 2, 3, 5);
            unlike(c, x, 4, 1, 2, 4);
        });
    }

    private static void unlike(Checks c, SecondRoom x, int g, int... kinds) {
        for (int kind : kinds) {
            c.found("mark(" + g + ", " + kind + ")", x, () -> x.mark(g, kind), UNLIKE);
        }
    }

    private static void turn(Sentences s) {
        s.of(14, "The TURN of a GUEST is k: what it was.", c -> {
            SecondRoom x = Checks.hotelOf("n6 g0000003 g0000002 o0000");
            c.due("turn(0, 0), the first", x.turn(0, 0), 3);
            c.due("turn(0, 5), the last", x.turn(0, 5), 0);
            c.due("turn(0, 5) as it is", x.turn(0, 5), 5);
            c.due("its TURN", x, x.guest(0, 1), 1, 5);
            c.due("its SECOND's LIFE", x, x.guest(0, 3), 1, 32);
            c.due("the other's TURN", x, x.guest(1, 1), 1, 2);
            c.due("turn() is no DEED", x.count(3), 0);
        });
    }

    private static void turnRefused(Sentences s) {
        s.of(14, "BAD; STATE: there are DEEDS.", "BAD", c -> {
            SecondRoom x = Checks.hotelOf("n2 g000 g000 o0000");
            c.badOutside("turn(.., 1)", x, g -> x.turn(g, 1), 0, 1);
            c.badOutside("turn(0, ..) of 2", x, k -> x.turn(0, k), 0, 1);
            SecondRoom six = Checks.hotelOf("n6 g0000000 o0000");
            c.badOutside("turn(0, ..) of 6", six, k -> six.turn(0, k), 0, 5);
            six.use(0);
            c.badOutside("turn(0, ..) with a DEED", six, k -> six.turn(0, k), 0, 5);
            SecondRoom none = new SecondRoom();
            c.refused("turn(0, 0), no GUESTS", none, () -> none.turn(0, 0), SecondRoom.BAD);
        });
        s.of(14, "BAD; STATE: there are DEEDS.", "STATE: there are DEEDS.", c -> {
            SecondRoom x = Checks.hotelOf("n2 g000 g000 o0000");
            x.use(1);
            c.refused("turn(0, 1), one DEED", x, () -> x.turn(0, 1), STATE);
            c.refused("turn(0, 0) as it is, one DEED", x, () -> x.turn(0, 0), STATE);
            x.undo(0);
            c.due("turn(0, 1), undone", x.turn(0, 1), 0);
            Checks.use(x, 0, 60);
            c.refused("turn(1, 1), 60 DEEDS", x, () -> x.turn(1, 1), STATE);
        });
    }
}
