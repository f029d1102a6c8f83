/** Promises 35 to 39: bill, pays, cheapest; spread, odds. */
final class BillsSentences {
    private static final String EIGHT_OF_1 = "o0101o0101o0101o0101o0101o0101o0101o0101";
    /** In ROOM 1 alone are THINGS 0, 1; in ROOM 0 alone THING 2; in both THING 3; in neither THING 4. */
    private static final String TWO_ALONE = "n2 g000 g000 o0101 o0110 o0000 o1010 o1111";
    /** No THING is in ROOM 1 alone; one is in ROOM 0 alone. */
    private static final String NONE_ALONE = "n2 g000 o0000";

    private BillsSentences() {
    }

    static void all(Sentences s) {
        billByHours(s);
        billByThings(s);
        billSquared(s);
        billRefused(s);
        pays(s);
        cheapest(s);
        cheapestFewest(s);
        spread(s);
        odds(s);
    }

    private static final String BILL = "The bill of a GUEST by a law: 0: 2 for each HOUR of ROOM 0, 3 of ROOM 1; "
        + "1: 1 for each HOUR of either, and 2 for each THING in ROOM 1 alone, if it was USED at all; "
        + "2: HOURS of the ROOM that was USED more, squared (either, if alike).";

    private static void billIs(Checks c, String text, int own, int seconds, int law, int price) {
        SecondRoom x = Checks.usedBy(text, 0, own, seconds);
        c.due("bill(0, " + law + ") of " + own + ", " + seconds + " HOURS", x.bill(0, law), price);
        c.due("bill(0, " + law + ") again", x.bill(0, law), price);
    }

    private static void billByHours(Sentences s) {
        s.of(35, BILL, "The bill of a GUEST by a law: 0: 2 for each HOUR of ROOM 0, 3 of ROOM 1", c -> {
            billIs(c, TWO_ALONE, 0, 0, 0, 0);
            billIs(c, TWO_ALONE, 1, 0, 0, 2);
            billIs(c, TWO_ALONE, 0, 1, 0, 3);
            billIs(c, TWO_ALONE, 0, 59, 0, 177);
            billIs(c, TWO_ALONE, 30, 29, 0, 147);
            SecondRoom full = Checks.hotelOf(TWO_ALONE);
            Checks.use(full, 1, 60);
            c.due("bill(1, 0) of 60 HOURS", full.bill(1, 0), 120);
            c.due("bill(0, 0), another's HOURS", full.bill(0, 0), 0);
        });
    }

    private static void billByThings(Sentences s) {
        s.of(35, BILL, "1: 1 for each HOUR of either, and 2 for each THING in ROOM 1 alone", c -> {
            billIs(c, TWO_ALONE, 0, 1, 1, 5);
            billIs(c, TWO_ALONE, 3, 4, 1, 11);
            billIs(c, NONE_ALONE, 3, 4, 1, 7);
            billIs(c, "n2g000" + EIGHT_OF_1, 0, 1, 1, 17);
            billIs(c, "n2g000" + EIGHT_OF_1, 0, 59, 1, 75);
            billIs(c, "n2g100" + EIGHT_OF_1, 0, 1, 1, 1);
            billIs(c, "n2g101" + EIGHT_OF_1, 0, 1, 1, 1);
        });
        s.of(35, BILL, "if it was USED at all", c -> {
            billIs(c, TWO_ALONE, 0, 0, 1, 0);
            billIs(c, TWO_ALONE, 1, 0, 1, 1);
            billIs(c, TWO_ALONE, 59, 0, 1, 59);
            billIs(c, TWO_ALONE, 1, 1, 1, 6);
        });
    }

    private static void billSquared(Sentences s) {
        s.of(35, BILL, "2: HOURS of the ROOM that was USED more, squared", c -> {
            billIs(c, TWO_ALONE, 3, 2, 2, 9);
            billIs(c, TWO_ALONE, 2, 3, 2, 9);
            billIs(c, TWO_ALONE, 0, 59, 2, 3481);
            SecondRoom full = Checks.hotelOf(TWO_ALONE);
            Checks.use(full, 1, 60);
            c.due("bill(1, 2) of 60 HOURS", full.bill(1, 2), 3600);
        });
        s.of(35, BILL, "(either, if alike).", c -> {
            billIs(c, TWO_ALONE, 0, 0, 2, 0);
            billIs(c, TWO_ALONE, 1, 1, 2, 1);
            billIs(c, TWO_ALONE, 29, 29, 2, 841);
        });
    }

    private static void billRefused(Sentences s) {
        s.of(35, "BAD.", c -> {
            SecondRoom x = Checks.usedBy(TWO_ALONE, 0, 1, 1);
            c.badOutside("bill(.., 0)", x, g -> x.bill(g, 0), 0, 1);
            c.badOutside("bill(0, ..)", x, law -> x.bill(0, law), 0, 2);
            SecondRoom none = new SecondRoom();
            c.refused("bill(0, 0), no GUESTS", none, () -> none.bill(0, 0), SecondRoom.BAD);
        });
    }

    private static void paysIs(Checks c, String text, int own, int seconds, int laws) {
        SecondRoom x = Checks.usedBy(text, 0, own, seconds);
        c.due("pays(0) of " + own + ", " + seconds + " HOURS of " + text, x.pays(0), laws);
        c.stateIs("pays(0) changes nothing", x, own + seconds + 1, 1, 0, own, seconds);
    }

    private static void pays(Sentences s) {
        s.of(36, "By which laws (bits 0 .. 2) a GUEST would pay less, if HOURS of its ROOMS were "
            + "the other way round.", c -> {
            paysIs(c, TWO_ALONE, 0, 0, 0);
            paysIs(c, TWO_ALONE, 0, 1, 3);
            paysIs(c, TWO_ALONE, 1, 0, 0);
            paysIs(c, TWO_ALONE, 1, 1, 0);
            paysIs(c, TWO_ALONE, 1, 2, 1);
            paysIs(c, TWO_ALONE, 2, 1, 0);
            paysIs(c, TWO_ALONE, 0, 59, 3);
            paysIs(c, TWO_ALONE, 29, 30, 1);
            paysIs(c, NONE_ALONE, 0, 1, 1);
        });
        s.of(36, "BAD.", c -> {
            SecondRoom x = Checks.usedBy(TWO_ALONE, 0, 0, 1);
            c.badOutside("pays(..)", x, x::pays, 0, 1);
            SecondRoom none = new SecondRoom();
            c.refused("pays(0), no GUESTS", none, () -> none.pays(0), SecondRoom.BAD);
        });
    }

    private static final String CHEAPEST = "The HOURS of ROOM 1 (0 .. all its HOURS) by which a GUEST would pay "
        + "least by a law, all its HOURS as they are (the fewest); how much by asked().";

    private static void cheapestIs(Checks c, int own, int seconds, int law, int hours, int price) {
        SecondRoom x = Checks.usedBy(TWO_ALONE, 0, own, seconds);
        c.due("cheapest(0, " + law + ") of " + own + ", " + seconds, x, x.cheapest(0, law), hours, price);
        c.stateIs("cheapest(0, " + law + ") changes nothing", x, own + seconds + 1, 1, 0, own, seconds);
    }

    private static void cheapest(Sentences s) {
        s.of(37, CHEAPEST, "The HOURS of ROOM 1 (0 .. all its HOURS) by which a GUEST would pay least by a law, "
            + "all its HOURS as they are", c -> {
            cheapestIs(c, 0, 0, 0, 0, 0);
            cheapestIs(c, 0, 0, 1, 0, 0);
            cheapestIs(c, 0, 0, 2, 0, 0);
            cheapestIs(c, 0, 59, 0, 0, 118);
            cheapestIs(c, 0, 59, 1, 0, 59);
            cheapestIs(c, 59, 0, 2, 29, 900);
            cheapestIs(c, 3, 1, 2, 2, 4);
        });
    }

    private static void cheapestFewest(Sentences s) {
        s.of(37, CHEAPEST, "(the fewest); how much by asked().", c -> {
            cheapestIs(c, 0, 1, 2, 0, 1);
            cheapestIs(c, 1, 2, 2, 1, 4);
            cheapestIs(c, 0, 5, 2, 2, 9);
            SecondRoom even = Checks.usedBy(NONE_ALONE, 0, 0, 7);
            c.due("cheapest(0, 1), alike by any HOURS", even, even.cheapest(0, 1), 0, 7);
            SecondRoom full = Checks.hotelOf(TWO_ALONE);
            Checks.use(full, 1, 60);
            c.due("cheapest(1, 2) of 60 HOURS", full, full.cheapest(1, 2), 30, 900);
        });
        s.of(37, "BAD.", c -> {
            SecondRoom x = Checks.usedBy(TWO_ALONE, 0, 1, 1);
            x.apart(0);
            c.badOutside("cheapest(.., 0)", x, g -> x.cheapest(g, 0), 0, 1);
            c.badOutside("cheapest(0, ..)", x, law -> x.cheapest(0, law), 0, 2);
            SecondRoom none = new SecondRoom();
            c.refused("cheapest(0, 0), no GUESTS", none, () -> none.cheapest(0, 0), SecondRoom.BAD);
        });
    }

    private static void spreadIs(Checks c, String guest, long upper, long lower) {
        SecondRoom x = Checks.hotelOf("n" + (guest.length() - 1) + guest + "1o0000");
        c.told("spread(0) of " + guest, x, x.spread(0), upper, lower);
        x.turn(0, 0);
        c.told("spread(0) of " + guest + ", TURN 0", x, x.spread(0), upper, lower);
    }

    private static void spread(Sentences s) {
        s.of(38, "The mean of TURNS at which both LIVES of a GUEST differ, if its TURN is any, alike likely, "
            + "told by upper(), lower(): 1.", c -> {
            spreadIs(c, "g000000", 1, 1);
            spreadIs(c, "s000000", 7, 2);
            spreadIs(c, "l000000", 13, 3);
            spreadIs(c, "c111111", 7, 2);
            spreadIs(c, "c000000", 1, 1);
            spreadIs(c, "p000000", 5, 6);
            spreadIs(c, "u00", 0, 1);
            spreadIs(c, "u10", 1, 1);
            spreadIs(c, "l00", 2, 1);
        });
        s.of(38, "BAD.", c -> {
            SecondRoom x = Checks.hotelOf("n2 s000 g000 o0000");
            x.spread(0);
            c.badOutside("spread(..)", x, x::spread, 0, 1);
            SecondRoom none = new SecondRoom();
            c.refused("spread(0), no GUESTS", none, () -> none.spread(0), SecondRoom.BAD);
        });
    }

    private static void odds(Sentences s) {
        s.of(39, "Chances that a THING is in ROOM 1 of a GUEST, if its TURN is any, alike likely, "
            + "told likewise: 1.", c -> {
            SecondRoom x = Checks.hotelOf("n6s0000001o0101o1111o2121o3131o4141o5151o0001");
            long[][] due = {{1, 6}, {1, 3}, {1, 2}, {2, 3}, {5, 6}, {1, 1}, {0, 1}};
            for (int thing = 0; thing < due.length; thing++) {
                c.told("odds(0, " + thing + ")", x, x.odds(0, thing), due[thing][0], due[thing][1]);
            }
            x.turn(0, 5);
            c.told("odds(0, 0), TURN 5", x, x.odds(0, 0), 1, 6);
            SecondRoom eight = Checks.hotelOf("n2g000" + EIGHT_OF_1);
            c.told("odds(0, 7), the last", eight, eight.odds(0, 7), 1, 2);
        });
        s.of(39, "BAD.", c -> {
            SecondRoom x = Checks.hotelOf(TWO_ALONE);
            x.odds(0, 0);
            c.badOutside("odds(.., 0)", x, g -> x.odds(g, 0), 0, 1);
            c.badOutside("odds(0, ..) of 5 THINGS", x, thing -> x.odds(0, thing), 0, 4);
            SecondRoom eight = Checks.hotelOf("n2g000" + EIGHT_OF_1);
            c.badOutside("odds(0, ..) of 8 THINGS", eight, thing -> eight.odds(0, thing), 0, 7);
            SecondRoom none = new SecondRoom();
            c.refused("odds(0, 0), no GUESTS", none, () -> none.odds(0, 0), SecondRoom.BAD);
        });
    }
}
