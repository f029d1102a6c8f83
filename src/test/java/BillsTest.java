/** Promises 35 to 40: bill, pays, cheapest; spread, odds, lots. */
public final class BillsTest {
    private static final int BAD = SecondRoom.BAD, STATE = SecondRoom.STATE, FULL = SecondRoom.FULL;
    /** Of GUEST 1 two THINGS are in ROOM 1 alone, of GUEST 2 none, one in ROOM 0 alone. */
    private static final String BILLED = "n3 l1102 l0100 g1000 o0101 o1111 o2121";
    private static final Checks c = new Checks("BillsTest");

    private static SecondRoom used(int g, int own, int seconds) {
        return Checks.usedBy(BILLED, g, own, seconds);
    }

    private static void billsAre(int g, int own, int seconds, int... due) {
        SecondRoom x = used(g, own, seconds);
        for (int law = 0; law < 3; law++) {
            String call = "bill(" + g + ", " + law + ") of " + own + ", " + seconds;
            c.due(call, x.bill(g, law), due[law]);
        }
    }

    private static void bill() {
        billsAre(1, 0, 0, 0, 0, 0);
        billsAre(1, 2, 0, 4, 2, 4);
        billsAre(1, 2, 1, 7, 7, 4);
        billsAre(1, 0, 3, 9, 7, 9);
        billsAre(1, 4, 4, 20, 12, 16);
        billsAre(0, 1, 1, 5, 4, 1);
        billsAre(2, 1, 2, 8, 3, 4);
        SecondRoom x = used(1, 2, 1);
        c.due("bill of who USED nothing", x.bill(0, 0), 0);
        c.refused("bill(0, 3)", x, () -> x.bill(0, 3), BAD);
        c.refused("bill(0, -1)", x, () -> x.bill(0, -1), BAD);
        c.refused("bill(3, 0)", x, () -> x.bill(3, 0), BAD);
        c.refused("bill(-1, 0)", x, () -> x.bill(-1, 0), BAD);
    }

    private static void pays() {
        int[][] due = {{1, 0, 0, 0}, {1, 2, 1, 0}, {1, 1, 2, 1}, {1, 0, 1, 3}, {1, 1, 0, 0}, {1, 3, 3, 0},
            {2, 0, 1, 1}};
        for (int[] d : due) {
            SecondRoom x = used(d[0], d[1], d[2]);
            c.due("pays(" + d[0] + ") of " + d[1] + ", " + d[2], x.pays(d[0]), d[3]);
        }
        SecondRoom x = used(0, 1, 1);
        c.refused("pays(3)", x, () -> x.pays(3), BAD);
        c.refused("pays(-1)", x, () -> x.pays(-1), BAD);
    }

    private static void cheapestIs(int own, int seconds, int law, int hours, int price) {
        SecondRoom x = used(1, own, seconds);
        String call = "cheapest(1, " + law + ") of " + own + ", " + seconds;
        c.due(call, x, x.cheapest(1, law), hours, price);
        c.due(call + " changes no HOURS", x, x.guest(1, 7), 1, seconds);
    }

    private static void cheapest() {
        cheapestIs(2, 3, 0, 0, 10);
        cheapestIs(2, 3, 1, 0, 5);
        cheapestIs(2, 3, 2, 2, 9);
        cheapestIs(4, 0, 2, 2, 4);
        cheapestIs(2, 0, 2, 1, 1);
        cheapestIs(0, 1, 2, 0, 1);
        cheapestIs(0, 0, 0, 0, 0);
        cheapestIs(0, 0, 2, 0, 0);
        SecondRoom x = used(0, 1, 1);
        c.refused("cheapest(0, 3)", x, () -> x.cheapest(0, 3), BAD);
        c.refused("cheapest(0, -1)", x, () -> x.cheapest(0, -1), BAD);
        c.refused("cheapest(3, 0)", x, () -> x.cheapest(3, 0), BAD);
        c.refused("cheapest(-1, 0)", x, () -> x.cheapest(-1, 0), BAD);
    }

    private static void spread() {
        SecondRoom x = Checks.hotelOf("n3 g1011s0111c1111p1000u0110 o0111");
        c.told("spread(0)", x, x.spread(0), 1, 1);
        c.told("spread(1)", x, x.spread(1), 2, 1);
        c.told("spread(2)", x, x.spread(2), 2, 1);
        c.told("spread(3)", x, x.spread(3), 5, 3);
        c.told("spread(4)", x, x.spread(4), 4, 3);
        SecondRoom never = Checks.hotelOf("n2 u000 o0000");
        c.told("spread: never apart", never, never.spread(0), 0, 1);
        SecondRoom colonel = Checks.hotelOf("n4 l00000 o0000");
        c.told("spread of a COLONEL: 4, 4, 3, 2", colonel, colonel.spread(0), 13, 4);
        c.refused("spread(5)", x, () -> x.spread(5), BAD);
        c.refused("spread(-1)", x, () -> x.spread(-1), BAD);
    }

    private static void odds() {
        SecondRoom x = Checks.hotelOf("n4 s00000 o0101 o2121 o1111 o3030 o3131");
        c.told("odds(0, 0)", x, x.odds(0, 0), 1, 4);
        c.told("odds(0, 1)", x, x.odds(0, 1), 3, 4);
        c.told("odds(0, 2)", x, x.odds(0, 2), 1, 2);
        c.told("odds(0, 3)", x, x.odds(0, 3), 0, 1);
        c.told("odds(0, 4)", x, x.odds(0, 4), 1, 1);
        c.refused("odds(0, 5)", x, () -> x.odds(0, 5), BAD);
        c.refused("odds(0, -1)", x, () -> x.odds(0, -1), BAD);
        c.refused("odds(1, 0)", x, () -> x.odds(1, 0), BAD);
        c.refused("odds(-1, 0)", x, () -> x.odds(-1, 0), BAD);
    }

    /** By seed 1 come 48271, 182605794, 1291394886, 1914720637, 2078669041, 407355683. */
    private static void lots() {
        String two = "n2 g000 g100 o0000";
        SecondRoom x = Checks.hotelOf(two);
        c.due("lots(6, 1)", x.lots(6, 1), 2);
        c.stateIs("lots(6, 1)", x, 6, 3, 0, 1, 0, 0, 3);
        c.due("undo(2) of LOTS", x.undo(2), 4);
        c.stateIs("undo(2) of LOTS", x, 2, 2, 0, 1, 0, 0, 0);
        SecondRoom opened = Checks.hotelOf(two);
        opened.lock(1, 1);
        c.due("lots(1, 1), LOCKED", opened.lots(1, 1), 0);
        c.stateIs("opened instead", opened, 2, 0, 0, 0, 0, 0, 0);
        SecondRoom one = Checks.hotelOf("n2 g000 o0000");
        c.due("lots(6, 1) of one GUEST", one.lots(6, 1), 0);
        c.stateIs("lots(6, 1) of one GUEST", one, 6, 0, 0, 3, 1);
        SecondRoom locks = Checks.hotelOf(two);
        c.due("lots(1, 2)", locks.lots(1, 2), 0);
        c.stateIs("lots(1, 2) locks", locks, 1, 0, 1, 0, 0, 0, 0);
        c.due("lots(1, 2) again", locks.lots(1, 2), 0);
        c.stateIs("lots(1, 2) again opens", locks, 2, 0, 0, 0, 0, 0, 0);
    }

    private static void lotsAtEdges() {
        SecondRoom x = Checks.hotelOf("n2 g000 g100 o0000");
        c.refused("lots(0, 1)", x, () -> x.lots(0, 1), BAD);
        c.refused("lots(31, 1)", x, () -> x.lots(31, 1), BAD);
        c.refused("lots(1, 0)", x, () -> x.lots(1, 0), BAD);
        c.refused("lots(1, -1)", x, () -> x.lots(1, -1), BAD);
        c.refused("lots(1, 2147483647)", x, () -> x.lots(1, Integer.MAX_VALUE), BAD);
        x.lots(30, 2147483646);
        x.lots(29, 5);
        c.due("59 DEEDS", x.count(3), 59);
        c.refused("lots(2, 1), 59 DEEDS", x, () -> x.lots(2, 1), FULL);
        x.lots(1, 1);
        c.due("60 DEEDS", x.count(3), 60);
        c.refused("lots(1, 1), 60 DEEDS", x, () -> x.lots(1, 1), FULL);
        c.refused("lots(31, 1), 60 DEEDS", x, () -> x.lots(31, 1), BAD);
        SecondRoom none = new SecondRoom();
        c.refused("lots(1, 1), no GUESTS", none, () -> none.lots(1, 1), STATE);
        c.refused("lots(0, 1), no GUESTS", none, () -> none.lots(0, 1), BAD);
    }

    public static void main(String[] args) {
        bill();
        pays();
        cheapest();
        spread();
        odds();
        lots();
        lotsAtEdges();
        c.end();
    }
}
