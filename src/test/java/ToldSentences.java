/** Promises 41 to 43, 45, 46: asked, upper, lower, finding, findings. */
final class ToldSentences {
    private static final int NONE = SecondRoom.NONE, BAD = SecondRoom.BAD;
    private static final int NOTHING = 1, BEYOND = 2, UNLIKE = 3, NOUGHT = 4, SIZE = 5;
    /** A CURATE's LIFE 1, the SECOND's 3; LIVES 0, 1 that are each other's SECOND; THING 3 never is. */
    private static final String THREE = "n2 u100 g000 g100 o0101 o1111 o1010 o0001";

    private ToldSentences() {
    }

    static void all(Sentences s) {
        askedOfRows(s);
        askedOfGuests(s);
        askedOfLives(s);
        askedOfAll(s);
        askedLeft(s);
        shares(s);
        finding(s);
        findings(s);
    }

    private static final String ASKED = "What the latest lay(), at(), mean(), guest(), both(), apart(), looks(), "
        + "drawer(), lives(), nearest(), pairs(), ring(), marks(), cheapest() "
        + "that was not refused (nor NONE) told; 0 before.";

    /** Something else was told ahead, so that what a call tells can be seen. */
    private static SecondRoom told99() {
        SecondRoom x = Checks.hotelOf(THREE);
        Checks.fill(x, 0, 99, 5);
        x.at(0, 0);
        return x;
    }

    private static void askedOfRows(Sentences s) {
        s.of(41, ASKED, "What the latest lay()", c -> {
            SecondRoom x = told99();
            c.due("lay(0, 1, 6)", x, x.lay(0, 1, 6), 1, 5);
            c.due("lay(0, 1, 7), the latest", x, x.lay(0, 1, 7), 1, 6);
        });
        s.of(41, ASKED, "at()", c -> {
            SecondRoom x = told99();
            c.due("at(0, 1)", x, x.at(0, 1), 1, 5);
            c.due("at(0, 0), the latest", x, x.at(0, 0), 1, 99);
        });
        s.of(41, ASKED, "mean()", c -> {
            SecondRoom x = told99();
            c.due("mean(0)", x, x.mean(0), 1, 52);
        });
    }

    private static void askedOfGuests(Sentences s) {
        s.of(41, ASKED, "guest()", c -> {
            SecondRoom x = told99();
            c.due("guest(0, 0)", x, x.guest(0, 0), 1, 5);
        });
        s.of(41, ASKED, "both()", c -> {
            SecondRoom x = told99();
            c.due("both(0)", x, x.both(0), 1, 6);
        });
        s.of(41, ASKED, "apart()", c -> {
            SecondRoom x = told99();
            c.due("apart(0)", x, x.apart(0), 1, 1);
        });
        s.of(41, ASKED, "cheapest()", c -> {
            SecondRoom x = told99();
            Checks.use(x, 0, 3);
            c.due("cheapest(0, 2)", x, x.cheapest(0, 2), 1, 4);
        });
    }

    private static void askedOfLives(Sentences s) {
        s.of(41, ASKED, "looks()", c -> {
            SecondRoom x = told99();
            c.due("looks(1)", x, x.looks(1), 1, 1);
        });
        s.of(41, ASKED, "drawer()", c -> {
            SecondRoom x = told99();
            c.due("drawer(1)", x, x.drawer(1), 0, 1);
        });
        s.of(41, ASKED, "lives()", c -> {
            SecondRoom x = told99();
            c.due("lives(3)", x, x.lives(3), 1, 3);
        });
        s.of(41, ASKED, "nearest()", c -> {
            SecondRoom x = told99();
            c.due("nearest(1, 1)", x, x.nearest(1, 1), 1, 2);
        });
    }

    private static void askedOfAll(Sentences s) {
        s.of(41, ASKED, "pairs()", c -> {
            SecondRoom x = told99();
            c.due("pairs()", x, x.pairs(), 1, 8);
        });
        s.of(41, ASKED, "ring()", c -> {
            SecondRoom x = told99();
            c.due("ring()", x, x.ring(), 2, 6);
        });
        s.of(41, ASKED, "marks()", c -> {
            SecondRoom x = told99();
            c.due("marks()", x, x.marks(), 2, 3);
        });
    }

    private static void askedLeft(Sentences s) {
        s.of(41, ASKED, "that was not refused", c -> {
            SecondRoom x = told99();
            x.row(1, 0);
            long refused = x.lay(0, 2, 1) + x.at(0, 2) + x.mean(1) + x.guest(3, 0) + x.both(3) + x.apart(3) + x.looks(3)
                + x.drawer(3) + x.lives(16) + x.nearest(0, 4) + x.cheapest(0, 3);
            c.due("11 refused", refused, 3 * SecondRoom.FINDING + 8 * BAD);
            c.due("asked() behind them", x.asked(), 99);
        });
        s.of(41, ASKED, "(nor NONE) told", c -> {
            SecondRoom x = Checks.hotelOf("n2 g000 o0001");
            x.drawer(0);
            c.due("nearest(0, 0)", x, x.nearest(0, 0), NONE, 2);
            c.due("ring()", x, x.ring(), NONE, 2);
            c.due("marks()", x, x.marks(), NONE, 2);
            c.due("fault(0)", x, x.fault(0), NONE, 2);
            c.due("pairs(), which answers 0", x, x.pairs(), 0, NONE);
            x.drawer(0);
            c.due("lives(1), which answers 0", x, x.lives(1), 0, NONE);
        });
        s.of(41, ASKED, "0 before.", c -> {
            SecondRoom x = new SecondRoom();
            c.due("asked() of a new object", x.asked(), 0);
            x.row(0, 3);
            x.at(0, 3);
            c.due("asked() behind calls that tell nothing", x.asked(), 0);
        });
        s.of(41, ASKED, c -> {
            SecondRoom x = told99();
            long others = x.row(1, 1) + x.tear(1) + x.copy(0, 0, 0, 1, 1) + x.text(1, 2) + x.put(1, 0, 65) + x.fault(0)
                + x.mark(0, 5) + x.turn(1, 1) + x.turn(1, 0) + x.change(0) + x.lock(0, 1) + x.use(0) + x.undo(2)
                + x.keep(0) + x.on(0) + x.things(0, 1) + x.has(1) + x.fits(0, 3) + x.twins(1) + x.who(0, 1)
                + x.bill(0, 0) + x.pays(0) + x.spread(0) + x.odds(0, 0) + x.lots(1, 3) + x.upper() + x.lower()
                + x.count(0) + x.finding() + x.findings(1) + x.digest() - x.digest();
            c.due("asked() behind all other calls (" + others + ")", x.asked(), 99);
            c.due("hotel(0)", x, x.hotel(0), 3, 99);
        });
    }

    private static void shares(Sentences s) {
        s.of(42, "The upper number that was told last; 0 before.", "The upper number that was told last", c -> {
            SecondRoom x = Checks.hotelOf("n6 s0000000 o1111 o0001");
            x.spread(0);
            c.due("upper() of spread(0)", x.upper(), 7);
            x.odds(0, 0);
            c.due("upper() of odds(0, 0)", x.upper(), 1);
            x.spread(0);
            c.due("upper() refused", x.odds(0, 2) + x.spread(1), 2 * BAD);
            c.due("upper() behind refusals", x.upper(), 7);
            x.odds(0, 1);
            c.due("upper() of none", x.upper(), 0);
        });
        s.of(42, "The upper number that was told last; 0 before.", "0 before.", c -> {
            c.due("upper() of a new object", new SecondRoom().upper(), 0);
            c.due("upper() of a HOTEL", Checks.hotelOf(THREE).upper(), 0);
        });
        s.of(43, "Its lower number; 1 before.", "Its lower number", c -> {
            SecondRoom x = Checks.hotelOf("n6 s0000000 o1111 o0001");
            x.spread(0);
            c.due("lower() of spread(0)", x.lower(), 2);
            x.odds(0, 0);
            c.due("lower() of odds(0, 0)", x.lower(), 3);
            c.due("lower() refused", x.odds(0, 2) + x.spread(1), 2 * BAD);
            c.due("lower() behind refusals", x.lower(), 3);
            x.odds(0, 1);
            c.due("lower() of none", x.lower(), 1);
        });
        s.of(43, "Its lower number; 1 before.", "1 before.", c -> {
            c.due("lower() of a new object", new SecondRoom().lower(), 1);
            c.due("lower() of a HOTEL", Checks.hotelOf(THREE).lower(), 1);
        });
    }

    private static void finding(Sentences s) {
        s.of(45, "The latest FINDING (0 before any).", "The latest FINDING", c -> {
            SecondRoom x = Checks.hotelOf(THREE);
            x.row(0, 0);
            c.found("tear(1)", x, () -> x.tear(1), NOTHING);
            c.found("at(0, 0)", x, () -> x.at(0, 0), BEYOND);
            c.found("mark(1, 1)", x, () -> x.mark(1, 1), UNLIKE);
            c.found("mean(0)", x, () -> x.mean(0), NOUGHT);
            c.found("row(0, -1)", x, () -> x.row(0, -1), SIZE);
            c.found("on(0)", x, () -> x.on(0), NOTHING);
            c.refused("hotel(4), BAD", x, () -> x.hotel(4), BAD);
            c.due("row(0, 1), not refused", x.row(0, 1), 1);
            c.due("finding() stays", x.finding(), NOTHING);
        });
        s.of(45, "The latest FINDING (0 before any).", "(0 before any).", c -> {
            SecondRoom x = new SecondRoom();
            c.due("finding() of a new object", x.finding(), 0);
            c.due("BAD and STATE", x.row(6, 0) + x.keep(0), BAD + SecondRoom.STATE);
            c.due("finding() behind them", x.finding(), 0);
        });
    }

    private static void findings(Sentences s) {
        s.of(46, "How often a FINDING (1 .. 5) was answered.", c -> {
            SecondRoom x = Checks.hotelOf(THREE);
            x.row(0, 0);
            for (int f = 1; f <= 5; f++) {
                c.due("findings(" + f + ") before", x.findings(f), 0);
            }
            for (int f = 1; f <= 5; f++) {
                for (int times = 0; times < f; times++) {
                    answer(x, f);
                }
            }
            for (int f = 1; f <= 5; f++) {
                c.due("findings(" + f + ")", x.findings(f), f);
            }
        });
        s.of(46, "BAD.", c -> {
            SecondRoom x = new SecondRoom();
            x.tear(0);
            c.badOutside("findings(..)", x, x::findings, 1, 5);
        });
    }

    private static void answer(SecondRoom x, int finding) {
        switch (finding) {
            case NOTHING:
                x.tear(1);
                break;
            case BEYOND:
                x.at(0, 0);
                break;
            case UNLIKE:
                x.mark(1, 1);
                break;
            case NOUGHT:
                x.mean(0);
                break;
            default:
                x.row(0, -1);
        }
    }
}
