/** The Terms' refusals, FINDINGS, chances, sets, ROOMS, DEEDS; and how many calls an object is used for. */
final class TermsSentences {
    private static final int BAD = SecondRoom.BAD, FULL = SecondRoom.FULL, STATE = SecondRoom.STATE;
    private static final int NOTHING = 1, BEYOND = 2, UNLIKE = 3, NOUGHT = 4, SIZE = 5;
    private static final String TWO = "n2 g000 s010 o0101";

    private TermsSentences() {
    }

    static void all(Sentences s) {
        calls(s);
        refusedInOrder(s);
        refusedOtherwise(s);
        refusedChangesNothing(s);
        findings(s);
        chances(s);
        sets(s);
        rooms(s);
        deeds(s);
    }

    private static SecondRoom withDeeds(int deeds) {
        SecondRoom x = Checks.hotelOf(TWO);
        Checks.use(x, 0, deeds);
        return x;
    }

    private static void calls(Sentences s) {
        String many = "An object is used for at most 512 calls after it has been made; "
            + "what later calls answer is free.";
        s.of("What it is", many, "An object is used for at most 512 calls after it has been made", c -> {
            SecondRoom x = new SecondRoom();
            x.row(0, 1);
            for (int i = 2; i < 511; i++) {
                x.lay(0, 0, i);
            }
            c.due("call 511, lay(0, 0, 511)", x.lay(0, 0, 511), 1);
            c.due("call 512, asked()", x.asked(), 510);
        });
        s.of("What it is", many, "An object is used for at most 512 calls after it has been made", c -> {
            SecondRoom x = new SecondRoom();
            for (int i = 1; i < 512; i++) {
                x.at(0, 0);
            }
            c.due("call 512, findings(1)", x.findings(1), 511);
        });
    }

    private static final String REFUSED = "Refused is, the first of these that fits, in this order: "
        + "BAD -1 (a number that is none, or not as told), FULL -2, STATE -4 (not now), SPENT -6 (more than told), "
        + "FINDING -3 (finding() tells which), unless a call says so otherwise.";

    private static void refusedInOrder(Sentences s) {
        s.ofTerms(REFUSED, "Refused is, the first of these that fits, in this order: "
            + "BAD -1 (a number that is none, or not as told)", c -> {
            SecondRoom x = withDeeds(60);
            c.due("BAD", BAD, -1);
            c.refused("use(2), FULL as well", x, () -> x.use(2), -1);
            c.refused("change(2), FULL as well", x, () -> x.change(2), -1);
            c.refused("lots(31, 1), FULL as well", x, () -> x.lots(31, 1), -1);
            c.refused("turn(0, 2), STATE as well", x, () -> x.turn(0, 2), -1);
            c.refused("row(6, -1), SIZE as well", x, () -> x.row(6, -1), -1);
            c.refused("lay(6, 0, 0), NOTHING as well", x, () -> x.lay(6, 0, 0), -1);
            c.refused("mark(0, 6), UNLIKE as well", x, () -> x.mark(0, 6), -1);
            SecondRoom none = new SecondRoom();
            c.refused("keep(3), STATE as well", none, () -> none.keep(3), -1);
            c.refused("lots(0, 1), STATE as well", none, () -> none.lots(0, 1), -1);
        });
        s.ofTerms(REFUSED, "FULL -2", c -> {
            SecondRoom x = withDeeds(60);
            c.due("FULL", FULL, -2);
            c.refused("use(0), 60 DEEDS", x, () -> x.use(0), -2);
        });
        s.ofTerms(REFUSED, "STATE -4 (not now)", c -> {
            SecondRoom x = withDeeds(1);
            c.due("STATE", STATE, -4);
            c.refused("turn(0, 1), there is a DEED", x, () -> x.turn(0, 1), -4);
            x.undo(0);
            c.due("turn(0, 1), there is none", x.turn(0, 1), 0);
        });
        s.ofTerms(REFUSED, "SPENT -6 (more than told)", c -> c.due("SPENT", SecondRoom.SPENT, -6));
        s.ofTerms(REFUSED, "FINDING -3 (finding() tells which)", c -> {
            SecondRoom x = new SecondRoom();
            c.due("FINDING", SecondRoom.FINDING, -3);
            c.due("row(0, -1)", x.row(0, -1), -3);
            c.due("row(0, -1), finding()", x.finding(), SIZE);
            c.due("tear(0)", x.tear(0), -3);
            c.due("tear(0), finding()", x.finding(), NOTHING);
        });
        s.ofTerms("NONE -9.", c -> {
            SecondRoom x = Checks.hotelOf(TWO);
            c.due("NONE", SecondRoom.NONE, -9);
            c.refused("fault(0)", x, () -> x.fault(0), -9);
            c.refused("ring()", x, x::ring, -9);
        });
    }

    private static void refusedOtherwise(Sentences s) {
        s.ofTerms(REFUSED, "unless a call says so otherwise.", c -> {
            SecondRoom x = withDeeds(59);
            x.lock(0, 1);
            c.refused("change(0): STATE ahead of FULL", x, () -> x.change(0), STATE);
            c.refused("lock(0, 1): STATE ahead of FULL", x, () -> x.lock(0, 1), STATE);
            c.found("hotel(1): NOTHING ahead of STATE", x, () -> x.hotel(1), NOTHING);
            SecondRoom none = new SecondRoom();
            c.refused("has(-1): STATE ahead of BAD", none, () -> none.has(-1), STATE);
            c.refused("lives(-1): STATE ahead of BAD", none, () -> none.lives(-1), STATE);
        });
    }

    /** Much is told, kept and done, so that a change could be seen. */
    private static SecondRoom muchTold() {
        SecondRoom x = Checks.hotelOf("n2 g000 s010 l111 o0101 o0001");
        Checks.fill(x, 0, 5, 6);
        x.text(1, 3);
        x.turn(1, 1);
        x.use(0);
        x.keep(1);
        x.change(1);
        x.lock(2, 1);
        x.spread(2);
        x.both(2);
        return x;
    }

    private static void refusedChangesNothing(Sentences s) {
        String nothing = "What is refused changes nothing but finding(), findings().";
        s.ofTerms(nothing, "What is refused changes nothing", c -> {
            SecondRoom x = muchTold();
            c.refused("row(6, 1)", x, () -> x.row(6, 1), BAD);
            c.refused("hotel(1)", x, () -> x.hotel(1), STATE);
            c.refused("turn(0, 1)", x, () -> x.turn(0, 1), STATE);
            c.refused("change(2)", x, () -> x.change(2), STATE);
            c.refused("lock(2, 1)", x, () -> x.lock(2, 1), STATE);
            c.refused("undo(4)", x, () -> x.undo(4), BAD);
            c.refused("cheapest(0, 3)", x, () -> x.cheapest(0, 3), BAD);
            c.refused("odds(0, 2)", x, () -> x.odds(0, 2), BAD);
            c.refused("nearest(0, 2)", x, () -> x.nearest(0, 2), BAD);
            c.refused("lots(31, 5)", x, () -> x.lots(31, 5), BAD);
            Checks.use(x, 0, 57);
            c.refused("lots(1, 5)", x, () -> x.lots(1, 5), FULL);
            c.refused("change(0)", x, () -> x.change(0), FULL);
            c.due("on(1): what was kept is as it was", x.on(1), 1);
            c.stateIs("on(1)", x, 1, 0, 0, 1, 0, 0, 0, 0, 0);
        });
        s.ofTerms(nothing, "but finding(), findings().", c -> {
            SecondRoom x = muchTold();
            c.found("row(0, -1)", x, () -> x.row(0, -1), SIZE);
            c.found("lay(0, 2, 1)", x, () -> x.lay(0, 2, 1), BEYOND);
            c.found("at(1, 0)", x, () -> x.at(1, 0), NOTHING);
            c.found("copy(0, 0, 0, 1, 2)", x, () -> x.copy(0, 0, 0, 1, 2), BEYOND);
            c.found("text(1, -1)", x, () -> x.text(1, -1), SIZE);
            c.found("put(1, 3, 1)", x, () -> x.put(1, 3, 1), BEYOND);
            c.found("hotel(2)", x, () -> x.hotel(2), NOTHING);
            c.found("mark(0, 1)", x, () -> x.mark(0, 1), UNLIKE);
            c.found("on(0)", x, () -> x.on(0), NOTHING);
        });
    }

    private static final String FINDINGS = "FINDINGS: 1 NOTHING (a ROW, a TEXT, a kept HOTEL that is missing), "
        + "2 BEYOND (a place that there is not), 3 UNLIKE (a GUEST of another KIND; a number that is none), "
        + "4 NOUGHT (shared among none; nothing fits), 5 SIZE (fewer than none; not as many as due).";

    private static void findings(Sentences s) {
        s.ofTerms(FINDINGS, "FINDINGS: 1 NOTHING (a ROW, a TEXT, a kept HOTEL that is missing)", c -> {
            SecondRoom x = Checks.hotelOf(TWO);
            c.found("at(0, 0), a ROW", x, () -> x.at(0, 0), 1);
            c.found("put(1, 0, 0), a TEXT", x, () -> x.put(1, 0, 0), 1);
            c.found("on(0), a kept HOTEL", x, () -> x.on(0), 1);
        });
        s.ofTerms(FINDINGS, "2 BEYOND (a place that there is not)", c -> {
            SecondRoom x = Checks.withRow(0, 1);
            c.found("at(0, 1)", x, () -> x.at(0, 1), 2);
            c.found("at(0, -1)", x, () -> x.at(0, -1), 2);
        });
        s.ofTerms(FINDINGS, "3 UNLIKE (a GUEST of another KIND; a number that is none)", c -> {
            SecondRoom x = Checks.hotelOf(TWO);
            c.found("mark(1, 2)", x, () -> x.mark(1, 2), 3);
        });
        s.ofTerms(FINDINGS, "4 NOUGHT (shared among none; nothing fits)", c -> {
            SecondRoom x = Checks.withRow(0);
            c.found("mean(0)", x, () -> x.mean(0), 4);
        });
        s.ofTerms(FINDINGS, "5 SIZE (fewer than none; not as many as due).", c -> {
            SecondRoom x = Checks.withRow(0, 1);
            c.found("row(0, -1)", x, () -> x.row(0, -1), 5);
            c.found("text(0, -1)", x, () -> x.text(0, -1), 5);
            c.found("copy(0, 0, 0, 0, -1)", x, () -> x.copy(0, 0, 0, 0, -1), 5);
        });
    }

    private static void chances(Sentences s) {
        String told = "Chances, means are told by upper(), lower(), in lowest terms, "
            + "the lower number above 0 (0 by 1).";
        String six = "n6 g0000000 s0000000 o0000 o0101 o0020 o0001";
        s.ofTerms(told, "Chances, means are told by upper(), lower(), in lowest terms", c -> {
            SecondRoom x = Checks.hotelOf(six);
            c.told("odds(0, 0), 5 of 6", x, x.odds(0, 0), 5, 6);
            c.told("odds(0, 1), 1 of 6", x, x.odds(0, 1), 1, 6);
            c.told("odds(0, 2), 4 of 6", x, x.odds(0, 2), 2, 3);
            c.told("spread(1), 21 of 6", x, x.spread(1), 7, 2);
            c.told("spread(0), 6 of 6", x, x.spread(0), 1, 1);
            SecondRoom two = Checks.hotelOf("n2 s000 o1111");
            c.told("odds(0, 0), 2 of 2", two, two.odds(0, 0), 1, 1);
        });
        s.ofTerms(told, "the lower number above 0 (0 by 1).", c -> {
            SecondRoom x = Checks.hotelOf(six);
            x.odds(0, 0);
            c.told("odds(0, 3), none of 6", x, x.odds(0, 3), 0, 1);
            SecondRoom never = Checks.hotelOf("n2 u000 o0000");
            c.told("spread(0), 0 of 2", never, never.spread(0), 0, 1);
        });
    }

    private static void sets(Sentences s) {
        s.ofTerms("Sets (of THINGS, TURNS, GUESTS, LIVES' choices) are told by bits.", c -> {
            SecondRoom x = Checks.hotelOf("n2g111g010g010g010g100o1111o1111o1111o1111o1111o1111o0001");
            c.due("THINGS 0 to 5", x.has(2), 63);
            c.due("THINGS, none", x.has(0), 0);
            c.due("the LIFE of choices 1, 1", x, x.guest(0, 2), 1, 3);
            c.due("TURN 0 alone", x.fits(0, 63), 1);
            c.due("TURN 1 alone", x.fits(0, 0), 2);
            c.due("GUEST 4 alone", x.twins(0), 16);
            c.due("GUESTS 0", x.twins(1), 1);
            x.change(4);
            c.due("who is IN ROOM 1: GUEST 4 alone", x.count(4), 16);
        });
    }

    private static void rooms(Sentences s) {
        s.ofTerms("2 ROOM 0 of a GUEST is its own, 1 the SECOND's.", c -> {
            SecondRoom x = Checks.hotelOf("n2 g000 o0000 o0101");
            c.due("things(0, 0)", x.things(0, 0), 1);
            c.due("things(0, 1)", x.things(0, 1), 2);
            x.change(0);
            c.due("things(0, 0), IN ROOM 1", x.things(0, 0), 1);
            c.due("things(0, 1), IN ROOM 1", x.things(0, 1), 2);
        });
        String first = "It is IN ROOM 0 at first, its door is not LOCKED, HOURS of both are 0.";
        String[] parts = {"It is IN ROOM 0 at first", "its door is not LOCKED", "HOURS of both are 0."};
        for (int p = 0; p < parts.length; p++) {
            int what = 4 + p;
            s.ofTerms(first, parts[p], c -> {
                SecondRoom x = Checks.hotelOf("n2 g000 s000 c000 p000 l000 o0000");
                for (int g = 0; g < 5; g++) {
                    c.due("guest(" + g + ", " + what + ")", x, x.guest(g, what), 1, 0);
                }
                c.due("HOURS of ROOM 1", x, x.guest(4, 7), 1, 0);
                c.due("who is IN ROOM 1", x.count(4), 0);
                c.due("LOCKED doors", x.count(5), 0);
            });
        }
    }

    private static final String DONE = "What is done: a GUEST changes over to its other ROOM (none does whose door is "
        + "LOCKED); its door (between both) is LOCKED, opened; it USES the ROOM that it is IN for an HOUR.";

    private static void deeds(Sentences s) {
        s.ofTerms(DONE, "What is done: a GUEST changes over to its other ROOM", c -> {
            SecondRoom x = Checks.hotelOf(TWO);
            c.due("change(1)", x.change(1), 1);
            c.due("change(1) again", x.change(1), 0);
            c.stateIs("changed twice", x, 2, 0, 0);
        });
        s.ofTerms(DONE, "(none does whose door is LOCKED)", c -> {
            SecondRoom x = Checks.hotelOf(TWO);
            x.lock(1, 1);
            c.refused("change(1), LOCKED", x, () -> x.change(1), STATE);
            x.lock(1, 0);
            c.due("change(1), opened", x.change(1), 1);
            x.lock(1, 1);
            c.refused("change(1) back, LOCKED", x, () -> x.change(1), STATE);
        });
        s.ofTerms(DONE, "its door (between both) is LOCKED, opened", c -> {
            SecondRoom x = Checks.hotelOf(TWO);
            x.change(1);
            c.due("lock(1, 1), IN ROOM 1", x.lock(1, 1), 1);
            c.stateIs("LOCKED", x, 2, 2, 2);
            c.due("lock(1, 0)", x.lock(1, 0), 0);
            c.stateIs("opened", x, 3, 2, 0);
        });
        s.ofTerms(DONE, "it USES the ROOM that it is IN for an HOUR.", c -> {
            SecondRoom x = Checks.hotelOf(TWO);
            x.use(1);
            x.change(1);
            x.use(1);
            x.use(1);
            c.stateIs("USED", x, 4, 2, 0, 0, 0, 1, 2);
        });
        s.ofTerms("These are NIGHTS' DEEDS (60 at most).", c -> {
            SecondRoom x = Checks.hotelOf(TWO);
            for (int i = 0; i < 20; i++) {
                x.use(0);
                x.change(1);
                x.lock(0, 1 - i % 2);
            }
            c.stateIs("60 DEEDS", x, 60, 0, 0, 20, 0, 0, 0);
            c.refused("use(0)", x, () -> x.use(0), FULL);
            c.refused("change(1)", x, () -> x.change(1), FULL);
            c.refused("lock(0, 1)", x, () -> x.lock(0, 1), FULL);
            c.refused("lots(1, 1)", x, () -> x.lots(1, 1), FULL);
            x.undo(59);
            c.due("lock(0, 0), the 60th", x.lock(0, 0), 0);
        });
    }
}
