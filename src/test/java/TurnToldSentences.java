/** Promises 25 to 29: fits, looks, drawer, lives, nearest. */
final class TurnToldSentences {
    private static final int STATE = SecondRoom.STATE, NONE = SecondRoom.NONE;
    private static final String EIGHT_OF_1 = "o0101o0101o0101o0101o0101o0101o0101o0101";
    /** By TURN k just THING k is in ROOM 1. */
    private static final String EACH_TURN = "n6g0000000o0101o1111o2121o3131o4141o5151";
    /** In ROOM 1 of GUEST 0 by TURNS 0, 1, 2: THINGS 0; 0, 1; 1. In that of GUEST 1 always both. */
    private static final String THREE = "n3 g0000 u0002 o2020 o0000";

    private TurnToldSentences() {
    }

    static void all(Sentences s) {
        fits(s);
        looks(s);
        drawer(s);
        lives(s);
        livesRefused(s);
        nearest(s);
        nearestRefused(s);
    }

    private static void fits(Sentences s) {
        String fits = "TURNS (bits) that a GUEST can have (its KIND, LIFE as they are), if just a set of THINGS "
            + "is in its ROOM 1.";
        s.of(25, fits, c -> {
            SecondRoom x = Checks.hotelOf(THREE);
            int[] due = {0, 1, 4, 2};
            for (int set = 0; set < 4; set++) {
                c.due("fits(0, " + set + ")", x.fits(0, set), due[set]);
            }
            x.turn(0, 2);
            c.due("fits(0, 1), whatever its TURN is", x.fits(0, 1), 1);
            SecondRoom each = Checks.hotelOf(EACH_TURN);
            for (int k = 0; k < 6; k++) {
                c.due("fits of THING " + k + " alone", each.fits(0, 1 << k), 1 << k);
            }
            c.due("fits of all THINGS", each.fits(0, 63), 0);
            c.due("fits of none", each.fits(0, 0), 0);
        });
        s.of(25, fits, c -> {
            SecondRoom all = Checks.hotelOf("n6l0000000" + EIGHT_OF_1);
            c.due("fits(0, 255), by all TURNS", all.fits(0, 255), 63);
            c.due("fits(0, 0), by none", all.fits(0, 0), 0);
            SecondRoom none = Checks.hotelOf("n6l1000000" + EIGHT_OF_1);
            c.due("fits(0, 0), by all TURNS", none.fits(0, 0), 63);
        });
        s.of(25, "BAD: also a set that is none.", "BAD", c -> {
            SecondRoom x = Checks.hotelOf(THREE);
            c.badOutside("fits(.., 0)", x, g -> x.fits(g, 0), 0, 1);
            SecondRoom none = new SecondRoom();
            c.refused("fits(0, 0), no GUESTS", none, () -> none.fits(0, 0), SecondRoom.BAD);
        });
        s.of(25, "BAD: also a set that is none.", "also a set that is none.", c -> {
            SecondRoom x = Checks.hotelOf(THREE);
            c.badOutside("fits(0, ..) of 2 THINGS", x, set -> x.fits(0, set), 0, 3);
            SecondRoom one = Checks.hotelOf("n2g000o0000");
            c.badOutside("fits(0, ..) of 1 THING", one, set -> one.fits(0, set), 0, 1);
            SecondRoom eight = Checks.hotelOf("n2g000" + EIGHT_OF_1);
            c.badOutside("fits(0, ..) of 8 THINGS", eight, set -> eight.fits(0, set), 0, 255);
        });
    }

    private static void looksIs(Checks c, String text, int many, int which) {
        SecondRoom x = Checks.hotelOf(text);
        x.guest(0, 0);
        c.due("looks(0) of " + text, x, x.looks(0), many, which);
    }

    private static void looks(Sentences s) {
        String looks = "The fewest THINGS that, looked at in ROOM 1, tell apart all unlike sets of THINGS "
            + "that can be there (by any TURN of the GUEST); which by asked() (bits; the least of as few).";
        s.of(26, looks, "The fewest THINGS that, looked at in ROOM 1, tell apart all unlike sets of THINGS "
            + "that can be there", c -> {
            looksIs(c, "n2 g000 o0001", 0, 0);
            looksIs(c, "n6l0000000" + EIGHT_OF_1, 0, 0);
            looksIs(c, "n2 g000 o0101", 1, 1);
            looksIs(c, "n2g000o0001o0001o0001o0001o0001o0001o0001o0101", 1, 128);
            looksIs(c, EACH_TURN, 5, 31);
            looksIs(c, THREE, 2, 3);
            looksIs(c, "n4 g00000 o0101 o1111 o0020 o0010", 2, 12);
        });
        s.of(26, looks, "(by any TURN of the GUEST)", c -> {
            SecondRoom x = Checks.hotelOf(THREE);
            for (int k = 0; k < 3; k++) {
                x.turn(0, k);
                c.due("looks(0), TURN " + k, x, x.looks(0), 2, 3);
            }
            looksIs(c, "n6 g1000005 o1111 o5151", 2, 3);
            SecondRoom one = Checks.hotelOf("n2 l000 g000 o0101 o1111");
            c.due("marks(), of LIVES 0, 3, 1", one, one.marks(), 2, 3);
            c.due("looks(0) behind it, LIFE 3 alone", one, one.looks(0), 0, 0);
        });
        s.of(26, looks, "which by asked() (bits; the least of as few).", c -> {
            looksIs(c, "n2 g000 o0101 o0000 o1111", 1, 1);
            looksIs(c, "n2 g000 o0001 o1111 o0000", 1, 2);
            looksIs(c, "n3 g0000 o0101 o1111 o2121", 2, 3);
        });
        s.of(26, "BAD.", c -> {
            SecondRoom x = Checks.hotelOf(THREE);
            x.looks(0);
            c.badOutside("looks(..)", x, x::looks, 0, 1);
            SecondRoom none = new SecondRoom();
            c.refused("looks(0), no GUESTS", none, () -> none.looks(0), SecondRoom.BAD);
        });
    }

    private static void drawerIs(Checks c, String text, int thing, int left) {
        SecondRoom x = Checks.hotelOf(text);
        c.due("drawer(0) of " + text, x, x.drawer(0), thing, left);
        x.turn(0, 1);
        c.due("drawer(0) of " + text + ", TURN 1", x, x.drawer(0), thing, left);
    }

    private static void drawer(Sentences s) {
        String drawer = "The THING (the first) that, looked at first in ROOM 1, leaves fewest TURNS at worst "
            + "(whether it is there, or not); how many by asked().";
        s.of(27, drawer, "The THING (the first) that, looked at first in ROOM 1, leaves fewest TURNS at worst", c -> {
            drawerIs(c, "n2 g000 o0101", 0, 1);
            drawerIs(c, "n2 g000 o0101 o0000 o1111", 0, 1);
            drawerIs(c, "n4g00000o0001o0001o0001o0001o0001o0001o0001o0010", 7, 2);
            drawerIs(c, "n4 g00000 o0101 o0010 o2030", 1, 2);
            drawerIs(c, "n2 g000 o0001 o0001", 0, 2);
        });
        s.of(27, drawer, "(whether it is there, or not); how many by asked().", c -> {
            drawerIs(c, "n6 g0000000 o0001", 0, 6);
            drawerIs(c, "n6 l0000000 o0101", 0, 6);
            drawerIs(c, "n6 g0000000 o0101", 0, 5);
            drawerIs(c, "n6 g0000000 o0000", 0, 5);
            drawerIs(c, "n6 g0000000 o0101 o0000 o0010", 2, 4);
            drawerIs(c, "n6 s0000000 o0101 o5151 o4141 o1111 o2121", 4, 3);
        });
        s.of(27, "BAD.", c -> {
            SecondRoom x = Checks.hotelOf(THREE);
            x.looks(0);
            c.badOutside("drawer(..)", x, x::drawer, 0, 1);
            SecondRoom none = new SecondRoom();
            c.refused("drawer(0), no GUESTS", none, () -> none.drawer(0), SecondRoom.BAD);
        });
    }

    private static void lives(Sentences s) {
        String lives = "How many LIVES (of any choices) HAVE just a set of THINGS; the first by asked() "
            + "(the least; NONE: none).";
        s.of(28, lives, "How many LIVES (of any choices) HAVE just a set of THINGS; the first by asked() "
            + "(the least", c -> {
            SecondRoom never = Checks.hotelOf("n6g1111110o0001");
            c.due("lives(0), all 64", never, never.lives(0), 64, 0);
            SecondRoom x = Checks.hotelOf("n6 g0000000 o0111 o2131 o4151 o0000");
            c.due("lives(7), the last alone", x, x.lives(7), 1, 63);
            c.due("lives(1)", x, x.lives(1), 9, 3);
            c.due("lives(8)", x, x.lives(8), 18, 0);
            c.due("lives(0)", x, x.lives(0), 9, 1);
            c.due("lives(14)", x, x.lives(14), 2, 60);
            SecondRoom all = Checks.hotelOf("n2g000" + EIGHT_OF_1);
            c.due("lives(255), all 8 THINGS", all, all.lives(255), 2, 1);
            c.due("lives(0), none of 8", all, all.lives(0), 2, 0);
        });
        s.of(28, lives, "NONE: none).", c -> {
            SecondRoom x = Checks.hotelOf("n2 g000 o0101 o0000");
            c.due("lives(3)", x, x.lives(3), 0, NONE);
            c.due("lives(0)", x, x.lives(0), 0, NONE);
            c.due("lives(1), again", x, x.lives(1), 2, 1);
            SecondRoom all = Checks.hotelOf("n2g000" + EIGHT_OF_1);
            c.due("lives(254)", all, all.lives(254), 0, NONE);
        });
    }

    private static void livesRefused(Sentences s) {
        String refused = "STATE: no GUESTS (ahead of BAD); BAD: a set that is none.";
        s.of(28, refused, "STATE: no GUESTS (ahead of BAD)", c -> {
            SecondRoom none = new SecondRoom();
            int[] sets = {0, 1, 256, -1, Integer.MIN_VALUE, Integer.MAX_VALUE};
            for (int set : sets) {
                c.refused("lives(" + set + ")", none, () -> none.lives(set), STATE);
            }
        });
        s.of(28, refused, "BAD: a set that is none.", c -> {
            SecondRoom one = Checks.hotelOf("n2g000o0000");
            c.badOutside("lives(..) of 1 THING", one, one::lives, 0, 1);
            SecondRoom eight = Checks.hotelOf("n2g000" + EIGHT_OF_1);
            c.badOutside("lives(..) of 8 THINGS", eight, eight::lives, 0, 255);
        });
    }

    private static final String NEAREST = "The fewest TURNS at which a LIFE has to differ from that of a GUEST that it "
        + "HAS a THING; that LIFE by asked() (the least of as near ones).";

    private static void nearestIs(Checks c, String guest, String thing, int many, int life) {
        SecondRoom x = Checks.hotelOf("n6" + guest + "0" + thing);
        c.due("nearest(0, 0) of " + guest + thing, x, x.nearest(0, 0), many, life);
    }

    private static void nearest(Sentences s) {
        s.of(29, NEAREST, "The fewest TURNS at which a LIFE has to differ from that of a GUEST "
            + "that it HAS a THING", c -> {
            nearestIs(c, "g000000", "o0050", 0, 0);
            nearestIs(c, "g000000", "o0150", 1, 1);
            nearestIs(c, "g000000", "o0151", 2, 33);
            nearestIs(c, "g111111", "o0151", 0, 63);
            nearestIs(c, "g111111", "o0051", 1, 62);
            nearestIs(c, "g111111", "o0050", 2, 30);
            nearestIs(c, "g000000", "o5151", 1, 32);
            SecondRoom two = Checks.hotelOf("n2 g000 o0111");
            c.due("nearest(0, 0), both of 2 TURNS", two, two.nearest(0, 0), 2, 3);
        });
        s.of(29, NEAREST, "that LIFE by asked() (the least of as near ones).", c -> {
            SecondRoom x = Checks.hotelOf("n2 l111 g000 o0000 o1111 o0101");
            c.due("nearest(0, 0)", x, x.nearest(0, 0), 1, 2);
            c.due("nearest(0, 1)", x, x.nearest(0, 1), 0, 3);
            c.due("nearest(1, 2)", x, x.nearest(1, 2), 1, 1);
            c.due("nearest(1, 0)", x, x.nearest(1, 0), 0, 0);
        });
        s.of(29, "NONE: none HAS it.", c -> {
            SecondRoom x = Checks.hotelOf("n2 g000 o0001 o1110 o0101");
            x.both(0);
            c.refused("nearest(0, 0)", x, () -> x.nearest(0, 0), NONE);
            c.refused("nearest(0, 1)", x, () -> x.nearest(0, 1), NONE);
            c.due("nearest(0, 2)", x, x.nearest(0, 2), 1, 1);
            c.refused("nearest(0, 1) again", x, () -> x.nearest(0, 1), NONE);
        });
    }

    private static void nearestRefused(Sentences s) {
        s.of(29, "BAD.", c -> {
            SecondRoom x = Checks.hotelOf(THREE);
            x.looks(0);
            c.badOutside("nearest(.., 0)", x, g -> x.nearest(g, 0), 0, 1);
            c.badOutside("nearest(0, ..)", x, thing -> x.nearest(0, thing), 0, 1);
            SecondRoom eight = Checks.hotelOf("n2g000" + EIGHT_OF_1);
            c.badOutside("nearest(0, ..) of 8 THINGS", eight, thing -> eight.nearest(0, thing), 0, 7);
            SecondRoom none = new SecondRoom();
            c.refused("nearest(0, 0), no GUESTS", none, () -> none.nearest(0, 0), SecondRoom.BAD);
        });
    }
}
