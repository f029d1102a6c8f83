/** Promise 40: lots. */
final class LotsSentences {
    private static final int STATE = SecondRoom.STATE, FULL = SecondRoom.FULL, BAD = SecondRoom.BAD;
    private static final int LAST_SEED = 2147483646;
    private static final String TWO = "n2 g000 g100 o0000";

    private LotsSentences() {
    }

    static void all(Sentences s) {
        numbers(s);
        deeds(s);
        howMany(s);
        refused(s);
        full(s);
    }

    private static final String LOTS = "n (1 .. 30) DEEDS truly by LOTS of a seed: a number comes from the one ahead "
        + "by 48271 times it modulo 2147483647, the first from the seed (1 .. 2147483646): "
        + "GUEST it modulo how many there are, by it by 16, cut, modulo 4: 0 changes over "
        + "(if its door is LOCKED, it is opened instead), 1 its door is LOCKED (if it is, opened), "
        + "else it USES its ROOM: how many GUESTS are IN ROOM 1 then.";

    /** The lots' own book: what the words say, in longs, done by the other calls. */
    private static int byHand(SecondRoom x, int n, int seed) {
        long number = seed;
        for (int i = 0; i < n; i++) {
            number = number * 48271L % 2147483647L;
            int g = (int) (number % x.count(0));
            boolean locked = (x.count(5) >> g & 1) == 1;
            switch ((int) (number / 16 % 4)) {
                case 0:
                    if (locked) {
                        x.lock(g, 0);
                    } else {
                        x.change(g);
                    }
                    break;
                case 1:
                    x.lock(g, locked ? 0 : 1);
                    break;
                default:
                    x.use(g);
            }
        }
        return Integer.bitCount(x.count(4));
    }

    private static void lotsAre(Checks c, String text, int n, int seed) {
        SecondRoom x = Checks.hotelOf(text);
        SecondRoom hand = Checks.hotelOf(text);
        c.due("lots(" + n + ", " + seed + ")", x.lots(n, seed), byHand(hand, n, seed));
        c.due("lots(" + n + ", " + seed + "): as if done by hand", x.digest(), hand.digest());
        for (int d = n - 1; d >= 0; d -= 7) {
            c.due("undo(" + d + ")", x.undo(d), hand.undo(d));
            c.due("undo(" + d + "): as if done by hand", x.digest(), hand.digest());
        }
    }

    /** By seed 1 come 48271, 182605794, 1291394886, 1914720637, 2078669041, 407355683. */
    private static void numbers(Sentences s) {
        s.of(40, LOTS, "n (1 .. 30) DEEDS truly by LOTS of a seed", c -> {
            lotsAre(c, TWO, 1, 7);
            lotsAre(c, TWO, 30, 7);
            SecondRoom x = Checks.hotelOf(TWO);
            x.lots(1, 7);
            c.due("lots(1, 7) is one DEED", x.count(3), 1);
            x.lots(30, 7);
            c.due("lots(30, 7) is 30 more", x.count(3), 31);
        });
        s.of(40, LOTS, "a number comes from the one ahead by 48271 times it modulo 2147483647, the first from the seed "
            + "(1 .. 2147483646)", c -> {
            lotsAre(c, "n2 g000 s010 c101 p110 u000 o0101", 30, 1);
            lotsAre(c, "n2 g000 s010 c101 p110 u000 o0101", 30, LAST_SEED);
            lotsAre(c, "n2 g000 s010 c101 o0101", 30, 44489);
            SecondRoom x = Checks.hotelOf(TWO);
            c.due("lots(6, 1)", x.lots(6, 1), 2);
            c.stateIs("lots(6, 1)", x, 6, 3, 0, 1, 0, 0, 3);
        });
        s.of(40, LOTS, "GUEST it modulo how many there are", c -> {
            SecondRoom one = Checks.hotelOf("n2 g000 o0000");
            c.due("lots(2, 1) of one", one.lots(2, 1), 1);
            c.stateIs("lots(2, 1) of one", one, 2, 1, 0, 0, 1);
            SecondRoom five = Checks.hotelOf("n2 g000 g000 g000 g000 g000 o0000");
            c.due("lots(2, 1) of five", five.lots(2, 1), 1);
            c.stateIs("lots(2, 1) of five", five, 2, 2, 0, 0, 0, 0, 0, 0, 0, 0, 0, 1, 0);
        });
    }

    /** By seed 1 the first number is 48271 (by 16, cut: 3016), by seed 2 96542 (6033), by seed 3 144813 (9050). */
    private static void deeds(Sentences s) {
        s.of(40, LOTS, "by it by 16, cut, modulo 4: 0 changes over", c -> {
            SecondRoom x = Checks.hotelOf(TWO);
            c.due("lots(1, 1)", x.lots(1, 1), 1);
            c.stateIs("lots(1, 1)", x, 1, 2, 0, 0, 0, 0, 0);
            c.due("lots(1, 1) again", x.lots(1, 1), 0);
            c.stateIs("lots(1, 1) again", x, 2, 0, 0, 0, 0, 0, 0);
        });
        s.of(40, LOTS, "(if its door is LOCKED, it is opened instead)", c -> {
            SecondRoom x = Checks.hotelOf(TWO);
            x.lock(1, 1);
            c.due("lots(1, 1), LOCKED", x.lots(1, 1), 0);
            c.stateIs("lots(1, 1), LOCKED", x, 2, 0, 0, 0, 0, 0, 0);
            c.due("undo(1)", x.undo(1), 1);
            c.stateIs("undo(1): LOCKED again", x, 1, 0, 2, 0, 0, 0, 0);
        });
        s.of(40, LOTS, "1 its door is LOCKED (if it is, opened)", c -> {
            SecondRoom x = Checks.hotelOf(TWO);
            c.due("lots(1, 2)", x.lots(1, 2), 0);
            c.stateIs("lots(1, 2)", x, 1, 0, 1, 0, 0, 0, 0);
            c.due("lots(1, 2) again", x.lots(1, 2), 0);
            c.stateIs("lots(1, 2) again", x, 2, 0, 0, 0, 0, 0, 0);
        });
        s.of(40, LOTS, "else it USES its ROOM", c -> {
            SecondRoom x = Checks.hotelOf(TWO);
            c.due("lots(1, 3), by 2", x.lots(1, 3), 0);
            c.stateIs("lots(1, 3)", x, 1, 0, 0, 0, 0, 1, 0);
            x.change(1);
            x.lock(1, 1);
            c.due("lots(1, 3), IN ROOM 1, LOCKED", x.lots(1, 3), 1);
            c.stateIs("lots(1, 3), IN ROOM 1, LOCKED", x, 4, 2, 2, 0, 0, 1, 1);
            SecondRoom three = Checks.hotelOf(TWO);
            c.due("lots(1, 4), by 3", three.lots(1, 4), 0);
            c.stateIs("lots(1, 4)", three, 1, 0, 0, 1, 0, 0, 0);
        });
    }

    private static void howMany(Sentences s) {
        s.of(40, LOTS, "how many GUESTS are IN ROOM 1 then.", c -> {
            SecondRoom x = Checks.hotelOf("n2 g000 g000 g000 g000 g000 o0000");
            c.due("lots(1, 3), none IN ROOM 1", x.lots(1, 3), 0);
            for (int g = 0; g < 5; g++) {
                x.change(g);
                c.due("lots(1, 3), " + (g + 1) + " IN ROOM 1", x.lots(1, 3), g + 1);
            }
        });
    }

    private static final String REFUSED =
        "BAD; STATE: no GUESTS; FULL: with n more there would be more than 60 DEEDS.";

    private static void refused(Sentences s) {
        s.of(40, REFUSED, "BAD", c -> {
            SecondRoom x = Checks.hotelOf(TWO);
            c.badOutside("lots(.., 1)", x, n -> x.lots(n, 1), 1, 30);
            c.badOutside("lots(1, ..)", x, seed -> x.lots(1, seed), 1, LAST_SEED);
            SecondRoom none = new SecondRoom();
            c.badOutside("lots(.., 1), no GUESTS", none, n -> none.lots(n, 1), 1, 30);
            c.badOutside("lots(1, ..), no GUESTS", none, seed -> none.lots(1, seed), 1, LAST_SEED);
        });
        s.of(40, REFUSED, "STATE: no GUESTS", c -> {
            SecondRoom none = new SecondRoom();
            c.refused("lots(1, 1)", none, () -> none.lots(1, 1), STATE);
            c.refused("lots(30, 2147483646)", none, () -> none.lots(30, LAST_SEED), STATE);
        });
    }

    private static void full(Sentences s) {
        s.of(40, REFUSED, "FULL: with n more there would be more than 60 DEEDS.", c -> {
            SecondRoom x = Checks.hotelOf(TWO);
            Checks.use(x, 0, 31);
            c.refused("lots(30, 1), 31 DEEDS", x, () -> x.lots(30, 1), FULL);
            x.undo(30);
            x.lots(30, 1);
            c.due("lots(30, 1), 30 DEEDS", x.count(3), 60);
            c.refused("lots(1, 1), 60 DEEDS", x, () -> x.lots(1, 1), FULL);
            x.undo(59);
            c.refused("lots(2, 1), 59 DEEDS", x, () -> x.lots(2, 1), FULL);
            x.lots(1, 1);
            c.due("lots(1, 1), 59 DEEDS", x.count(3), 60);
        });
        s.of(40, "(FULL last.)", c -> {
            SecondRoom x = Checks.hotelOf(TWO);
            Checks.use(x, 0, 60);
            c.refused("lots(31, 1), BAD as well", x, () -> x.lots(31, 1), BAD);
            c.refused("lots(1, 0), BAD as well", x, () -> x.lots(1, 0), BAD);
            c.refused("lots(30, 1)", x, () -> x.lots(30, 1), FULL);
        });
    }
}
