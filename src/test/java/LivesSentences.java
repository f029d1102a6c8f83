/** Promises 21 to 24: things, both, apart, has. */
final class LivesSentences {
    private static final int STATE = SecondRoom.STATE, NONE = SecondRoom.NONE;
    /** LIVES 0, 2, 2; the SECONDS' 1, 1, 0; THING 0 tells 1 at TURN 0, THING 1 0 at TURN 1, THING 2 never is. */
    private static final String THREE = "n2 g000 s010 g011 o0101 o1010 o0001";
    private static final String EIGHT_OF_1 = "o0101o0101o0101o0101o0101o0101o0101o0101";

    private LivesSentences() {
    }

    static void all(Sentences s) {
        things(s);
        both(s);
        apart(s);
        has(s);
    }

    private static void things(Sentences s) {
        String things = "THINGS (bits) that are in a ROOM of a GUEST (its LIFE's, the SECOND's).";
        s.of(21, things, c -> {
            SecondRoom x = Checks.hotelOf(THREE);
            int[][] due = {{2, 3}, {0, 3}, {0, 2}};
            for (int g = 0; g < 3; g++) {
                c.due("things(" + g + ", 0)", x.things(g, 0), due[g][0]);
                c.due("things(" + g + ", 1)", x.things(g, 1), due[g][1]);
            }
            x.turn(0, 1);
            c.due("things(0, 1), TURN 1", x.things(0, 1), 0);
            x.change(1);
            c.due("things(1, 0), IN ROOM 1", x.things(1, 0), 0);
            c.due("things(1, 1), IN ROOM 1", x.things(1, 1), 3);
        });
        s.of(21, things, c -> {
            SecondRoom all = Checks.hotelOf("n2g000" + EIGHT_OF_1);
            c.due("things(0, 0), none of 8", all.things(0, 0), 0);
            c.due("things(0, 1), all 8", all.things(0, 1), 255);
            SecondRoom one = Checks.hotelOf("n2g000o0000");
            c.due("things(0, 0), the one", one.things(0, 0), 1);
            c.due("things(0, 1), not the one", one.things(0, 1), 0);
        });
        s.of(21, "BAD.", c -> {
            SecondRoom x = Checks.hotelOf(THREE);
            c.badOutside("things(.., 0)", x, g -> x.things(g, 0), 0, 2);
            c.badOutside("things(0, ..)", x, room -> x.things(0, room), 0, 1);
            SecondRoom none = new SecondRoom();
            c.refused("things(0, 0), no GUESTS", none, () -> none.things(0, 0), SecondRoom.BAD);
        });
    }

    private static void both(Sentences s) {
        s.of(22, "THINGS that are in both ROOMS of a GUEST (bits); those in one alone by asked().", c -> {
            SecondRoom x = Checks.hotelOf(THREE);
            c.due("both(0)", x, x.both(0), 2, 1);
            c.due("both(1)", x, x.both(1), 0, 3);
            c.due("both(2)", x, x.both(2), 0, 2);
            SecondRoom alone = Checks.hotelOf("n2g000" + EIGHT_OF_1);
            c.due("both(0), all 8 in ROOM 1 alone", alone, alone.both(0), 0, 255);
            SecondRoom own = Checks.hotelOf("n2g100" + EIGHT_OF_1);
            c.due("both(0), all 8 in ROOM 0 alone", own, own.both(0), 0, 255);
            SecondRoom shared = Checks.hotelOf("n2g101" + EIGHT_OF_1);
            c.due("both(0), all 8 in both", shared, shared.both(0), 255, 0);
            SecondRoom neither = Checks.hotelOf("n2g000 o0001");
            c.due("both(0), none at all", neither, neither.both(0), 0, 0);
        });
        s.of(22, "BAD.", c -> {
            SecondRoom x = Checks.hotelOf(THREE);
            x.both(1);
            c.badOutside("both(..)", x, x::both, 0, 2);
            SecondRoom none = new SecondRoom();
            c.refused("both(0), no GUESTS", none, () -> none.both(0), SecondRoom.BAD);
        });
    }

    private static void apartIs(Checks c, String guest, int many, int first) {
        SecondRoom x = Checks.hotelOf("n" + (guest.length() - 2) + guest + "o0000");
        x.guest(0, 0);
        c.due("apart(0) of " + guest, x, x.apart(0), many, first);
    }

    private static void apart(Sentences s) {
        String apart = "At how many TURNS both LIVES of a GUEST differ; the first by asked() (NONE: none).";
        s.of(23, apart, "At how many TURNS both LIVES of a GUEST differ; the first by asked()", c -> {
            apartIs(c, "g0000000", 1, 0);
            apartIs(c, "g1111115", 1, 5);
            apartIs(c, "s0000000", 6, 0);
            apartIs(c, "s1111114", 2, 4);
            apartIs(c, "l1111115", 2, 0);
            apartIs(c, "c1111110", 6, 0);
            apartIs(c, "c0000003", 1, 3);
            apartIs(c, "p1000003", 2, 3);
            apartIs(c, "u1000000", 1, 5);
        });
        s.of(23, apart, "(NONE: none).", c -> {
            apartIs(c, "p0000005", 0, NONE);
            apartIs(c, "u0000000", 0, NONE);
            apartIs(c, "p111", 0, NONE);
        });
        s.of(23, "BAD.", c -> {
            SecondRoom x = Checks.hotelOf(THREE);
            x.apart(0);
            c.badOutside("apart(..)", x, x::apart, 0, 2);
            SecondRoom none = new SecondRoom();
            c.refused("apart(0), no GUESTS", none, () -> none.apart(0), SecondRoom.BAD);
        });
    }

    private static void has(Sentences s) {
        s.of(24, "THINGS (bits) that a LIFE HAS (by bits).", c -> {
            SecondRoom x = Checks.hotelOf(THREE);
            int[] due = {2, 3, 0, 1};
            for (int life = 0; life < 4; life++) {
                c.due("has(" + life + ")", x.has(life), due[life]);
            }
            SecondRoom all = Checks.hotelOf("n6g0000000" + EIGHT_OF_1);
            c.due("has(0), none of 8", all.has(0), 0);
            c.due("has(63), all 8", all.has(63), 255);
        });
        String refused = "BAD: also a LIFE that is none; STATE: no GUESTS (ahead of BAD).";
        s.of(24, refused, "BAD: also a LIFE that is none", c -> {
            SecondRoom two = Checks.hotelOf(THREE);
            c.badOutside("has(..) of 2 TURNS", two, two::has, 0, 3);
            SecondRoom six = Checks.hotelOf("n6g0000000o0000");
            c.badOutside("has(..) of 6 TURNS", six, six::has, 0, 63);
        });
        s.of(24, refused, "STATE: no GUESTS (ahead of BAD).", c -> {
            SecondRoom none = new SecondRoom();
            int[] lives = {0, 1, 64, -1, Integer.MIN_VALUE, Integer.MAX_VALUE};
            for (int life : lives) {
                c.refused("has(" + life + ")", none, () -> none.has(life), STATE);
            }
        });
    }
}
