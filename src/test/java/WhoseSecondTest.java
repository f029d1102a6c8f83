/** Promises 30 to 34: twins, pairs, ring, who, marks. */
public final class WhoseSecondTest {
    private static final int BAD = SecondRoom.BAD, NONE = SecondRoom.NONE;
    /** LIVES 5, 6, 7, 1, 6; the SECONDS' 7, 0, 1, 4, 2. */
    private static final String FIVE = "n3 g1011s0111c1111p1000u0110 o0111o2020o0021o1011";
    /** 0, 1, 2, 3 are a ring by LIVES 0, 1, 3, 2. */
    private static final String FOUR_RING = "n2 g000 g101 g110 g011 o0000o0101o1111";
    private static final Checks c = new Checks("WhoseSecondTest");

    private static void twins() {
        SecondRoom x = Checks.hotelOf(FIVE);
        int[] due = {4, 0, 8, 0, 0};
        for (int g = 0; g < 5; g++) {
            c.due("twins(" + g + ")", x.twins(g), due[g]);
        }
        SecondRoom y = Checks.hotelOf("n2 g000 g101 g100 c100 o0000");
        c.due("twins, three", y.twins(0), 14);
        c.due("twins, GUEST 0 alone", Checks.hotelOf("n2 g000 g100 o0000").twins(1), 1);
        SecondRoom own = Checks.hotelOf("n2 p001 g000 p001 o0000");
        c.due("twins: not itself", own.twins(0), 6);
        c.refused("twins(5)", x, () -> x.twins(5), BAD);
        c.refused("twins(-1)", x, () -> x.twins(-1), BAD);
    }

    private static void pairsAre(String text, int pairs, int first) {
        SecondRoom x = Checks.hotelOf(text);
        c.due("pairs of " + text, x, x.pairs(), pairs, first);
    }

    private static void pairs() {
        pairsAre(FIVE, 0, NONE);
        pairsAre(FOUR_RING, 0, NONE);
        pairsAre("n2 g000 g100 o0000", 1, 1);
        pairsAre("n2 g000 g100 g010 g110 o0000", 2, 1);
        pairsAre("n2 g001 g110 g100 g010 o0000", 1, 9);
        pairsAre("n2 g000 g100 g000 g100 g100 o0000", 6, 1);
        pairsAre("n2 p001 o0000", 0, NONE);
        pairsAre("n2 p001 p001 o0000", 1, 1);
        pairsAre("n3 g0000 g0100 g1000 g0110 g1110 o0000", 2, 2);
        SecondRoom none = new SecondRoom();
        c.due("pairs, no GUESTS", none, none.pairs(), 0, NONE);
    }

    private static void ringIs(String text, int size, int who) {
        SecondRoom x = Checks.hotelOf(text);
        c.due("ring of " + text, x, x.ring(), size, who);
    }

    private static void noRing(String text) {
        SecondRoom x = Checks.hotelOf(text);
        x.guest(0, 1);
        c.refused("ring of " + text, x, x::ring, NONE);
    }

    private static void ring() {
        noRing(FIVE);
        noRing("n2 p001 o0000");
        noRing("n2 g000 o0000");
        noRing("n2 g000 g101 g110 o0000");
        ringIs(FOUR_RING, 4, 15);
        ringIs("n2 g000 g101 s110 o0000", 3, 7);
        ringIs("n2 g000 g100 o0000", 2, 3);
        ringIs("n2 g000 g100 g010 g110 o0000", 2, 3);
        ringIs("n2 p001 p001 o0000", 2, 3);
        ringIs("n2 s110 g011 g101 g000 o0000", 3, 13);
        ringIs("n2 g001 g110 g100 g010 o0000", 2, 10);
        ringIs("n2 g110 g000 g101 g011 g100 o0000", 2, 18);
        ringIs("n3 g0000 g1001 g1102 s1110 s0001 o0000", 4, 15);
        ringIs("n3 g0000 g1001 g1102 g1110 s0111 o0000", 5, 31);
        ringIs("n3 g0000 g1001 g1102 g1110 s0110 o0000", 4, 30);
        SecondRoom none = new SecondRoom();
        c.refused("ring, no GUESTS", none, none::ring, NONE);
    }

    private static void who() {
        SecondRoom x = Checks.hotelOf(FIVE);
        c.due("who(0, 0)", x.who(0, 0), 3);
        c.due("who(0, 1)", x.who(0, 1), 2);
        c.due("who(2, 1)", x.who(2, 1), 1);
        c.due("who(0, 8)", x.who(0, 8), 0);
        SecondRoom y = Checks.hotelOf("n3 u1101 o0101o2020o2121o1010");
        c.due("who: both, and more", y.who(0, 1), 3);
        c.due("who: all of a set, own", y.who(0, 3), 1);
        c.due("who: all of a set, the SECOND's", y.who(0, 13), 2);
        c.due("who: not all of a set", y.who(0, 6), 0);
        c.refused("who(0, 16)", x, () -> x.who(0, 16), BAD);
        c.refused("who(0, -1)", x, () -> x.who(0, -1), BAD);
        c.refused("who(5, 0)", x, () -> x.who(5, 0), BAD);
        c.refused("who(-1, 0)", x, () -> x.who(-1, 0), BAD);
    }

    private static void marks() {
        SecondRoom x = Checks.hotelOf(FIVE);
        x.guest(0, 2);
        c.refused("marks, not even by all", x, x::marks, NONE);
        SecondRoom four = Checks.hotelOf(FOUR_RING);
        c.due("marks of four LIVES", four, four.marks(), 2, 5);
        SecondRoom two = Checks.hotelOf("n2 g000 o1010 o0101");
        c.due("marks of LIVES 0, 1", two, two.marks(), 1, 2);
        SecondRoom ten = Checks.hotelOf("n4g10112c10002c00103u00013g01100o1000o0131o3101o2121o3010");
        c.refused("marks of ten LIVES, the last two alike in THINGS", ten, ten::marks, NONE);
        SecondRoom looked = Checks.hotelOf("n3 g0000 o0101 o1111");
        c.due("looks, of LIVES 1, 2, 4", looked, looked.looks(0), 2, 3);
        c.due("marks behind it, of LIVES 0, 1", looked, looked.marks(), 1, 1);
        SecondRoom alike = Checks.hotelOf("n2 p001 p001 o0000");
        c.due("marks of LIVES all alike", alike, alike.marks(), 0, 0);
        SecondRoom none = new SecondRoom();
        none.row(0, 1);
        none.lay(0, 0, 4);
        none.at(0, 0);
        c.due("marks, no GUESTS", none, none.marks(), 0, 0);
    }

    public static void main(String[] args) {
        twins();
        pairs();
        ring();
        who();
        marks();
        c.end();
    }
}
