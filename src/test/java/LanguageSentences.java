/** The Terms' small language: what a HOTEL's TEXT is, and where its FAULT is. */
final class LanguageSentences {
    private static final int NONE = SecondRoom.NONE;
    private static final String EIGHT = "o0000o0000o0000o0000o0000o0000o0000o0000";

    private LanguageSentences() {
    }

    static void all(Sentences s) {
        rowsAndTexts(s);
        blanks(s);
        turns(s);
        guests(s);
        things(s);
        faultOfSigns(s);
        faultOfOrder(s);
        faultAtEnd(s);
    }

    /** fault() of a TEXT, and that hotel() takes it just if there is none. */
    private static void faultIs(Checks c, String text, int want) {
        SecondRoom x = new SecondRoom();
        Checks.write(x, 0, text);
        c.due("fault of \"" + text + "\"", x.fault(0), want);
        c.due("hotel of \"" + text + "\" is refused", x.hotel(0) == SecondRoom.STATE ? 1 : 0, want == NONE ? 0 : 1);
    }

    private static void rowsAndTexts(Sentences s) {
        String papers = "1 ROWS 0 .. 5 are rows of 0 to 40 ints, TEXTS 0 .. 3 rows of 0 to 60 bytes, "
            + "or missing (at first).";
        s.ofTerms(papers, "1 ROWS 0 .. 5 are rows of 0 to 40 ints", c -> {
            SecondRoom x = new SecondRoom();
            for (int r = 0; r <= 5; r++) {
                c.due("row(" + r + ", 40)", x.row(r, 40), 40);
                c.due("lay(" + r + ", 39, r)", x.lay(r, 39, r), 1);
            }
            for (int r = 0; r <= 5; r++) {
                c.due("at(" + r + ", 39)", x, x.at(r, 39), 1, r);
                c.due("row(" + r + ", 0)", x.row(r, 0), 0);
            }
            c.badOutside("row(.., 0)", x, r -> x.row(r, 0), 0, 5);
            c.refused("row(0, 41)", x, () -> x.row(0, 41), SecondRoom.BAD);
        });
        s.ofTerms(papers, "TEXTS 0 .. 3 rows of 0 to 60 bytes", c -> {
            SecondRoom x = new SecondRoom();
            for (int t = 0; t <= 3; t++) {
                c.due("text(" + t + ", 60)", x.text(t, 60), 60);
                c.due("put(" + t + ", 59, t)", x.put(t, 59, t), 1032);
            }
            for (int t = 0; t <= 3; t++) {
                c.due("put(" + t + ", 59, 0)", x.put(t, 59, 0), 1000 + t);
                c.due("text(" + t + ", 0)", x.text(t, 0), 0);
            }
            c.badOutside("text(.., 0)", x, t -> x.text(t, 0), 0, 3);
            c.refused("text(0, 61)", x, () -> x.text(0, 61), SecondRoom.BAD);
        });
        s.ofTerms(papers, "or missing (at first).", c -> {
            SecondRoom x = new SecondRoom();
            for (int r = 0; r <= 5; r++) {
                c.due("tear(" + r + ")", x.tear(r), SecondRoom.FINDING);
            }
            for (int t = 0; t <= 3; t++) {
                c.due("fault(" + t + ")", x.fault(t), SecondRoom.FINDING);
            }
            c.due("each was NOTHING", x.findings(1), 10);
        });
    }

    private static void blanks(Sentences s) {
        String hotel = "A HOTEL (without GUESTS, THINGS at first) is a TEXT: blanks (32) ahead, between, behind "
            + "as many as wanted, none within items.";
        s.ofTerms(hotel, "A HOTEL (without GUESTS, THINGS at first) is a TEXT", c -> {
            SecondRoom x = new SecondRoom();
            for (int what = 0; what <= 6; what++) {
                c.due("count(" + what + ") at first", x.count(what), 0);
            }
            Checks.write(x, 0, "n2g000o0000");
            c.due("count(0) ahead of hotel()", x.count(0), 0);
            c.due("hotel(0)", x.hotel(0), 1);
        });
        s.ofTerms(hotel, "blanks (32) ahead, between, behind as many as wanted", c -> {
            faultIs(c, "n2g000o0000", NONE);
            faultIs(c, " n2g000o0000", NONE);
            faultIs(c, "n2 g000o0000", NONE);
            faultIs(c, "n2g000 o0000", NONE);
            faultIs(c, "n2g000o0000 ", NONE);
            faultIs(c, " ".repeat(49) + "n2g000o0000", NONE);
            faultIs(c, "n2g000o0000" + " ".repeat(49), NONE);
            faultIs(c, "n2" + " ".repeat(49) + "g000o0000", NONE);
            faultIs(c, "n2g000" + " ".repeat(49) + "o0000", NONE);
            faultIs(c, "n2g000g000" + " ".repeat(20) + "s000 o0000   o0000", NONE);
            faultIs(c, "\tn2g000o0000", 0);
            faultIs(c, "n2g000\u00a0o0000", 6);
            faultIs(c, "n2g000o0000\n", 11);
        });
        s.ofTerms(hotel, "none within items.", c -> {
            faultIs(c, "n 2g000o0000", 1);
            faultIs(c, "n2g 000o0000", 3);
            faultIs(c, "n2g0 00o0000", 4);
            faultIs(c, "n2g00 0o0000", 5);
            faultIs(c, "n2g000o 0000", 7);
            faultIs(c, "n2g000o0 000", 8);
            faultIs(c, "n2g000o00 00", 9);
            faultIs(c, "n2g000o000 0", 10);
        });
    }

    private static void turns(Sentences s) {
        String turns = "The first item is n (110) and how many TURNS there are (one figure 2 .. 6).";
        s.ofTerms(turns, "The first item is n (110)", c -> {
            faultIs(c, "m2g000o0000", 0);
            faultIs(c, "o2g000o0000", 0);
            faultIs(c, "N2g000o0000", 0);
            faultIs(c, "2g000o0000", 0);
            faultIs(c, "  g000n2o0000", 2);
            faultIs(c, "n2n2g000o0000", 2);
            faultIs(c, "n2g000n2o0000", 6);
            faultIs(c, "n2g000o0000n2", 11);
        });
        s.ofTerms(turns, "and how many TURNS there are (one figure 2 .. 6).", c -> {
            faultIs(c, "n0g0o0000", 1);
            faultIs(c, "n1g00o0000", 1);
            faultIs(c, "n2g000o0000", NONE);
            faultIs(c, "n6g0000000o0000", NONE);
            faultIs(c, "n7g00000000o0000", 1);
            faultIs(c, "n9", 1);
            faultIs(c, "n:", 1);
            faultIs(c, "n/", 1);
            faultIs(c, "n02g000o0000", 1);
            faultIs(c, "n22g000o0000", 2);
            c.due("count(1), the fewest", Checks.hotelOf("n2g000o0000").count(1), 2);
            c.due("count(1), the most", Checks.hotelOf("n6g0000000o0000").count(1), 6);
        });
    }

    private static final String GUESTS = "Then GUESTS (1 to 5; 0, 1, .. as they come): a letter, as many figures 0, 1 "
        + "as there are TURNS (what was chosen at TURN 0, 1, ..), the TURN at which the second's LIFE differs "
        + "(one figure, below how many there are).";

    private static void guests(Sentences s) {
        s.ofTerms(GUESTS, "Then GUESTS (1 to 5; 0, 1, .. as they come): a letter", c -> {
            faultIs(c, "n2g000o0000", NONE);
            faultIs(c, "n2g000s000c000p000l000o0000", NONE);
            faultIs(c, "n2g000s000c000p000l000u000o0000", 22);
            SecondRoom x = Checks.hotelOf("n2g000s000c000p000l000o0000");
            int[] kinds = {0, 1, 2, 3, 4};
            for (int g = 0; g < 5; g++) {
                c.due("the KIND of GUEST " + g, x, x.guest(g, 0), 1, kinds[g]);
            }
        });
        s.ofTerms(GUESTS, "as many figures 0, 1 as there are TURNS (what was chosen at TURN 0, 1, ..)", c -> {
            faultIs(c, "n2g020o0000", 4);
            faultIs(c, "n2g/00o0000", 3);
            faultIs(c, "n2g200o0000", 3);
            faultIs(c, "n6g0000020o0000", 8);
            faultIs(c, "n2g00o0000", 5);
            faultIs(c, "n2g0000o0000", 6);
            SecondRoom x = Checks.hotelOf("n6 g1000000 g0000010 g1111110 o0000");
            int[] lives = {1, 32, 63};
            for (int g = 0; g < 3; g++) {
                c.due("the LIFE of GUEST " + g, x, x.guest(g, 2), 1, lives[g]);
            }
        });
        s.ofTerms(GUESTS, "the TURN at which the second's LIFE differs (one figure, below how many there are).", c -> {
            faultIs(c, "n2g001o0000", NONE);
            faultIs(c, "n2g002o0000", 5);
            faultIs(c, "n2g00/o0000", 5);
            faultIs(c, "n6g0000005o0000", NONE);
            faultIs(c, "n6g0000006o0000", 9);
            faultIs(c, "n2g0010o0000", 6);
            SecondRoom x = Checks.hotelOf("n6 g0000000 g0000005 o0000");
            c.due("the first TURN", x, x.guest(0, 1), 1, 0);
            c.due("the last TURN", x, x.guest(1, 1), 1, 5);
        });
    }

    private static final String THINGS = "Then THINGS (1 to 8; 0, 1, .. as they come): o (111), a TURN, "
        + "a choice (0, 1), a TURN, a choice (one figure each; the same TURN twice is well).";

    private static void things(Sentences s) {
        s.ofTerms(THINGS, "Then THINGS (1 to 8; 0, 1, .. as they come): o (111)", c -> {
            faultIs(c, "n2g000o0000", NONE);
            faultIs(c, "n2g000" + EIGHT, NONE);
            faultIs(c, "n2g000" + EIGHT + "o0000", 46);
            faultIs(c, "n2g000q0000", 6);
            faultIs(c, "n2g000O0000", 6);
            SecondRoom x = Checks.hotelOf("n2g000o0101o1111o0000o1010");
            int[] had = {12, 9, 6, 3};
            for (int life = 0; life < 4; life++) {
                c.due("has(" + life + ")", x.has(life), had[life]);
            }
        });
        s.ofTerms(THINGS, "a TURN, a choice (0, 1), a TURN, a choice (one figure each", c -> {
            faultIs(c, "n2g000o1111", NONE);
            faultIs(c, "n2g000o2000", 7);
            faultIs(c, "n2g000o/000", 7);
            faultIs(c, "n2g000o0200", 8);
            faultIs(c, "n2g000o0/00", 8);
            faultIs(c, "n2g000o0020", 9);
            faultIs(c, "n2g000o00/0", 9);
            faultIs(c, "n2g000o0002", 10);
            faultIs(c, "n2g000o000/", 10);
            faultIs(c, "n6g0000000o5151", NONE);
            faultIs(c, "n6g0000000o6000", 11);
            faultIs(c, "n6g0000000o0060", 13);
            faultIs(c, "n2g000o00000", 11);
        });
        s.ofTerms(THINGS, "the same TURN twice is well).", c -> {
            faultIs(c, "n2g000o0101", NONE);
            faultIs(c, "n2g000o1010", NONE);
            faultIs(c, "n2g000o0001", NONE);
            faultIs(c, "n2g000o1110", NONE);
        });
    }

    private static final String FAULT = "A FAULT is the first place at which it can't go on so (a letter, a figure "
        + "that is none such, a sixth GUEST, a ninth THING, a GUEST behind a THING, a THING ahead of GUESTS: "
        + "its place; the TEXT's size, if its end comes too early, or there is no GUEST, no THING, "
        + "or there are blanks alone).";

    private static void faultOfSigns(Sentences s) {
        s.ofTerms(FAULT, "A FAULT is the first place at which it can't go on so", c -> {
            faultIs(c, "xxn7", 0);
            faultIs(c, "n7g9x", 1);
            faultIs(c, "n2g9x", 3);
            faultIs(c, "n2g000o9x", 7);
            faultIs(c, "n2g000o0000xx", 11);
        });
        s.ofTerms(FAULT, "a letter", c -> {
            faultIs(c, "x", 0);
            faultIs(c, "n2a000o0000", 2);
            faultIs(c, "n2 G000o0000", 3);
            faultIs(c, "n2g000t000o0000", 6);
            faultIs(c, "n2g000o0000 x", 12);
            faultIs(c, "n2g0g000o0000", 4);
            faultIs(c, "n2g000o0o000", 8);
        });
        s.ofTerms(FAULT, "a figure that is none such", c -> {
            faultIs(c, "n8", 1);
            faultIs(c, "n2g030o0000", 4);
            faultIs(c, "n2g009o0000", 5);
            faultIs(c, "n2g000o0500", 8);
            faultIs(c, "n2g000o00001", 11);
        });
        s.ofTerms(FAULT, "a figure that is none such", c -> {
            SecondRoom x = new SecondRoom();
            Checks.write(x, 0, "n2g000o0000");
            x.put(0, 4, 128 + 48);
            c.due("fault(0), a byte below 0", x.fault(0), 4);
            x.put(0, 4, 256 + 48);
            c.due("fault(0), cut to a figure", x.fault(0), NONE);
            x.put(0, 4, 0);
            c.due("fault(0), a byte 0", x.fault(0), 4);
            x.put(0, 4, -1);
            c.due("fault(0), a byte -1", x.fault(0), 4);
        });
    }

    private static void faultOfOrder(Sentences s) {
        s.ofTerms(FAULT, "a sixth GUEST", c -> {
            faultIs(c, "n2g000g000g000g000g000g000o0000", 22);
            faultIs(c, "n2g000g000g000g000g000  u000o0000", 24);
            faultIs(c, "n2g000g000g000g000g000s", 22);
        });
        s.ofTerms(FAULT, "a ninth THING", c -> {
            faultIs(c, "n2g000" + EIGHT + "o0000", 46);
            faultIs(c, "n2g000" + EIGHT + "  o0000", 48);
            faultIs(c, "n2g000" + EIGHT + "o", 46);
        });
        s.ofTerms(FAULT, "a GUEST behind a THING", c -> {
            faultIs(c, "n2g000o0000g000", 11);
            faultIs(c, "n2g000o0000 u000", 12);
            faultIs(c, "n2g000o0000g000o0000", 11);
        });
        s.ofTerms(FAULT, "a THING ahead of GUESTS: its place", c -> {
            faultIs(c, "n2o0000g000", 2);
            faultIs(c, "n2  o0000", 4);
            faultIs(c, "n2o", 2);
        });
    }

    private static void faultAtEnd(Sentences s) {
        s.ofTerms(FAULT, "the TEXT's size, if its end comes too early", c -> {
            String whole = "n2g000o0000";
            for (int size = 0; size < whole.length(); size++) {
                faultIs(c, whole.substring(0, size), size);
            }
            faultIs(c, whole, NONE);
            faultIs(c, whole + "o000", 15);
            faultIs(c, "n6g000000", 9);
        });
        s.ofTerms(FAULT, "or there is no GUEST", c -> {
            faultIs(c, "n2", 2);
            faultIs(c, "n2   ", 5);
            faultIs(c, "n2" + " ".repeat(58), 60);
        });
        s.ofTerms(FAULT, "no THING", c -> {
            faultIs(c, "n2g000", 6);
            faultIs(c, "n2g000  ", 8);
            faultIs(c, "n2g000g000g000g000g000", 22);
            faultIs(c, "n6g0000000" + " ".repeat(50), 60);
        });
        s.ofTerms(FAULT, "or there are blanks alone).", c -> {
            faultIs(c, "", 0);
            faultIs(c, " ", 1);
            faultIs(c, " ".repeat(60), 60);
        });
    }
}
