/** Promises 30 to 34: twins, pairs, ring, who, marks. */
final class WhoseSecondSentences {
    private static final int NONE = SecondRoom.NONE;
    /** LIVES 4, 0, 7, 3, 2, 6, 9, 8, 12, 5; the last two are told apart by THING 2 alone. */
    private static final String TEN_LIVES = "n4u00102c11102c01002p10010p00110o0030o2000o0010o3011o0120";
    private static final String EIGHT_OF_1 = "o0101o0101o0101o0101o0101o0101o0101o0101";

    private WhoseSecondSentences() {
    }

    static void all(Sentences s) {
        twins(s);
        pairs(s);
        ring(s);
        ringOfAsFew(s);
        noRing(s);
        who(s);
        marks(s);
        marksOfAsFew(s);
        marksNone(s);
    }

    private static void twins(Sentences s) {
        s.of(30, "GUESTS (bits, others) whose LIFE is just that of a GUEST's SECOND.", c -> {
            SecondRoom x = Checks.hotelOf("n2 g000 g100 g101 c100 s101 o0000");
            c.due("twins(0), all others", x.twins(0), 30);
            c.due("twins(1), the first alone", x.twins(1), 1);
            c.due("twins(2), LIFE 3, none", x.twins(2), 0);
            SecondRoom last = Checks.hotelOf("n2 g000 g010 g010 g010 g100 o0000");
            c.due("twins(0), the last alone", last.twins(0), 16);
            SecondRoom to = Checks.hotelOf("n2 g100 g100 g100 g100 g000 o0000");
            c.due("twins(4), all others", to.twins(4), 15);
        });
        s.of(30, "GUESTS (bits, others) whose LIFE is just that of a GUEST's SECOND.", "others", c -> {
            c.due("twins(0), its own second alone", Checks.hotelOf("n2 p001 o0000").twins(0), 0);
            SecondRoom x = Checks.hotelOf("n2 p001 p001 o0000");
            c.due("twins(0), its own second and another's", x.twins(0), 2);
            c.due("twins(1), its own second and another's", x.twins(1), 1);
        });
        s.of(30, "BAD.", c -> {
            SecondRoom x = Checks.hotelOf("n2 g000 g100 o0000");
            c.badOutside("twins(..)", x, x::twins, 0, 1);
            SecondRoom none = new SecondRoom();
            c.refused("twins(0), no GUESTS", none, () -> none.twins(0), SecondRoom.BAD);
        });
    }

    private static void pairsAre(Checks c, String text, int pairs, int first) {
        SecondRoom x = Checks.hotelOf(text);
        x.guest(0, 0);
        c.due("pairs() of " + text, x, x.pairs(), pairs, first);
    }

    private static void pairs(Sentences s) {
        String pairs = "How many pairs of GUESTS are each other's SECOND; the first by asked() "
            + "(6 times the lesser, and the other; NONE).";
        s.of(31, pairs, "How many pairs of GUESTS are each other's SECOND", c -> {
            pairsAre(c, "n2 g000 g100 o0000", 1, 1);
            pairsAre(c, "n2 g000 g100 g010 g110 o0000", 2, 1);
            pairsAre(c, "n2 p001 p001 p001 p001 p001 o0000", 10, 1);
            pairsAre(c, "n2 g000 g101 o0000", 0, NONE);
        });
        s.of(31, pairs, "the first by asked() (6 times the lesser, and the other", c -> {
            pairsAre(c, "n3 g0110 g0110 g0110 g0000 g1000 o0000", 1, 22);
            pairsAre(c, "n3 g0000 g0110 g0110 g0110 g1000 o0000", 1, 4);
            pairsAre(c, "n3 g0110 g0000 g1000 g1110 g1000 o0000", 3, 3);
            pairsAre(c, "n3 g0110 g0000 g1000 g0010 g0010 o0000", 1, 8);
        });
        s.of(31, pairs, "NONE).", c -> {
            pairsAre(c, "n2 g000 o0000", 0, NONE);
            pairsAre(c, "n2 p001 o0000", 0, NONE);
            SecondRoom none = new SecondRoom();
            c.due("pairs(), no GUESTS", none, none.pairs(), 0, NONE);
        });
    }

    private static final String RING = "The fewest GUESTS (two or more) that are a ring: of each the SECOND's LIFE "
        + "is that of the next one, of the last one that of the first; who is in one of as few by asked() "
        + "(bits; the least number).";

    private static void ringIs(Checks c, String text, int size, int who) {
        SecondRoom x = Checks.hotelOf(text);
        x.guest(0, 0);
        c.due("ring() of " + text, x, x.ring(), size, who);
    }

    private static void noRingOf(Checks c, String text) {
        SecondRoom x = Checks.hotelOf(text);
        x.apart(0);
        c.refused("ring() of " + text, x, x::ring, NONE);
    }

    private static void ring(Sentences s) {
        s.of(32, RING, "The fewest GUESTS (two or more) that are a ring: of each the SECOND's LIFE is that "
            + "of the next one, of the last one that of the first", c -> {
            ringIs(c, "n2 g000 g100 o0000", 2, 3);
            ringIs(c, "n2 g000 g101 s110 o0000", 3, 7);
            ringIs(c, "n2 g000 g101 g110 g011 o0000", 4, 15);
            ringIs(c, "n3 g0000 g1001 g1102 g1110 s0111 o0000", 5, 31);
            ringIs(c, "n3 s0111 g1110 g1102 g1001 g0000 o0000", 5, 31);
            ringIs(c, "n2 s110 g000 g101 g100 o0000", 2, 10);
        });
        s.of(32, RING, "(two or more)", c -> {
            noRingOf(c, "n2 p001 o0000");
            noRingOf(c, "n2 p001 u010 o0000");
            ringIs(c, "n2 p001 p001 o0000", 2, 3);
            ringIs(c, "n2 p111 g000 g100 o0000", 2, 6);
        });
    }

    private static void ringOfAsFew(Sentences s) {
        s.of(32, RING, "who is in one of as few by asked() (bits; the least number).", c -> {
            ringIs(c, "n2 g000 g100 g010 g110 o0000", 2, 3);
            ringIs(c, "n2 g010 g000 g100 g110 o0000", 2, 6);
            ringIs(c, "n2 g000 g010 g100 g110 o0000", 2, 5);
            ringIs(c, "n2 p001 p001 p001 p001 p001 o0000", 2, 3);
            ringIs(c, "n3 g0110 g0110 g0110 g0000 g1000 o0000", 2, 24);
        });
    }

    private static void noRing(Sentences s) {
        s.of(32, "NONE: there is none.", c -> {
            noRingOf(c, "n2 g000 o0000");
            noRingOf(c, "n2 g000 g101 g110 o0000");
            noRingOf(c, "n2 g000 g101 g101 g101 g101 o0000");
            noRingOf(c, "n3 g0000 g1001 g1102 g1110 g0112 o0000");
            SecondRoom none = new SecondRoom();
            c.refused("ring(), no GUESTS", none, none::ring, NONE);
        });
        s.of(32, "NONE: there is none.", c -> {
            SecondRoom x = Checks.hotelOf("n2 g000 g111 g101 o0000");
            c.due("ring() of 1, 2", x, x.ring(), 2, 6);
            x.turn(2, 0);
            x.turn(0, 1);
            c.refused("ring(), no more", x, x::ring, NONE);
            x.turn(2, 1);
            c.due("ring() of 1, 2 again", x, x.ring(), 2, 6);
        });
    }

    private static void who(Sentences s) {
        String who = "Who HAS all THINGS of a set (bits; perhaps more, too): 1 a GUEST's own LIFE, 2 the SECOND's, "
            + "3 both, 0 neither.";
        s.of(33, who, c -> {
            SecondRoom x = Checks.hotelOf("n2 g000 o0000 o0101 o1010 o1111");
            int[] due = {3, 1, 2, 0, 3, 1, 2, 0, 0, 0, 0, 0, 0, 0, 0, 0};
            for (int set = 0; set < due.length; set++) {
                c.due("who(0, " + set + ")", x.who(0, set), due[set]);
            }
        });
        s.of(33, who, c -> {
            SecondRoom eight = Checks.hotelOf("n2g000" + EIGHT_OF_1);
            c.due("who(0, 0), a set of none", eight.who(0, 0), 3);
            c.due("who(0, 255), a set of all", eight.who(0, 255), 2);
            c.due("who(0, 128), perhaps more, too", eight.who(0, 128), 2);
            c.due("who(0, 255), both", Checks.hotelOf("n2g101" + EIGHT_OF_1).who(0, 255), 3);
            c.due("who(0, 255), own", Checks.hotelOf("n2g100" + EIGHT_OF_1).who(0, 255), 1);
            c.due("who(0, 255), neither", Checks.hotelOf("n2g001" + EIGHT_OF_1).who(0, 255), 0);
        });
        s.of(33, "BAD: also a set that is none.", "BAD", c -> {
            SecondRoom x = Checks.hotelOf("n2 g000 g000 o0000");
            c.badOutside("who(.., 0)", x, g -> x.who(g, 0), 0, 1);
            SecondRoom none = new SecondRoom();
            c.refused("who(0, 0), no GUESTS", none, () -> none.who(0, 0), SecondRoom.BAD);
        });
        s.of(33, "BAD: also a set that is none.", "also a set that is none.", c -> {
            SecondRoom one = Checks.hotelOf("n2g000o0000");
            c.badOutside("who(0, ..) of 1 THING", one, set -> one.who(0, set), 0, 1);
            SecondRoom eight = Checks.hotelOf("n2g000" + EIGHT_OF_1);
            c.badOutside("who(0, ..) of 8 THINGS", eight, set -> eight.who(0, set), 0, 255);
        });
    }

    private static final String MARKS = "The fewest THINGS by which maids tell all unlike LIVES (both of each GUEST) "
        + "apart; which by asked() (bits; the least of as few).";

    private static void marksAre(Checks c, String text, int many, int which) {
        SecondRoom x = Checks.hotelOf(text);
        x.apart(0);
        c.due("marks() of " + text, x, x.marks(), many, which);
    }

    private static void marks(Sentences s) {
        s.of(34, MARKS, "The fewest THINGS by which maids tell all unlike LIVES (both of each GUEST) apart", c -> {
            marksAre(c, "n2 p001 o0000", 0, 0);
            marksAre(c, "n2 p001 p001 p001 p001 p001 o0001", 0, 0);
            marksAre(c, "n2 g000 o0000", 1, 1);
            marksAre(c, "n2 g000 g100 o0000", 1, 1);
            marksAre(c, "n2 g000 g011 o0101 o1111", 2, 3);
            marksAre(c, "n2 g000 g010 o0101 o1111", 2, 3);
            marksAre(c, "n2g000o0001o0001o0001o0001o0001o0001o0001o0101", 1, 128);
            marksAre(c, "n3 g0000 g0100 g0010 g0110 o0101 o1111 o2121", 3, 7);
            SecondRoom none = new SecondRoom();
            c.due("marks(), no GUESTS", none, none.marks(), 0, 0);
        });
        s.of(34, MARKS, "The fewest THINGS by which maids tell all unlike LIVES (both of each GUEST) apart", c -> {
            marksAre(c, TEN_LIVES, 5, 31);
            SecondRoom x = Checks.hotelOf("n3 g0000 o0101 o1111");
            c.due("looks(0), of LIVES 1, 2, 4", x, x.looks(0), 2, 3);
            c.due("marks() behind it, of LIVES 0, 1", x, x.marks(), 1, 1);
            x.turn(0, 1);
            c.due("marks(), of LIVES 0, 2", x, x.marks(), 1, 2);
        });
    }

    private static void marksOfAsFew(Sentences s) {
        s.of(34, MARKS, "which by asked() (bits; the least of as few).", c -> {
            marksAre(c, "n2 g000 o0101 o0000", 1, 1);
            marksAre(c, "n2 g000 o1111 o0000 o0101", 1, 2);
            marksAre(c, "n2 g000 g010 o0111 o0101 o1111 o0000", 2, 6);
        });
    }

    private static void marksNone(Sentences s) {
        s.of(34, "NONE: not even by all.", c -> {
            String[] texts = {"n2 g000 o0001", "n2 g000 o1111", "n2 g000 g010 o0101", "n2g000g010" + EIGHT_OF_1,
                TEN_LIVES.replace("o0010", "o0001")};
            for (String text : texts) {
                SecondRoom x = Checks.hotelOf(text);
                x.apart(0);
                c.refused("marks() of " + text, x, x::marks, NONE);
            }
        });
    }
}
