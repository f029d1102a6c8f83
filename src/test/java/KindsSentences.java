/** The Terms' KINDS of GUESTS, LIVES, the SECOND's LIFE, THINGS that a LIFE HAS. */
final class KindsSentences {
    private static final int UNLIKE = 3;

    private KindsSentences() {
    }

    static void all(Sentences s) {
        kinds(s);
        lives(s);
        secondOfGuest(s);
        secondOfSoldiers(s);
        secondOfClerk(s);
        secondOfPriests(s);
        things(s);
    }

    private static final String KINDS = "KINDS of GUESTS and letters: 0 GUEST (g, 103), 1 SOLDIER (s, 115; a GUEST), "
        + "2 CLERK (c, 99; a GUEST), 3 PRIEST (p, 112; a GUEST), 4 COLONEL (l, 108; a SOLDIER), "
        + "5 CURATE (u, 117; a PRIEST).";

    /** A letter's KIND, and which KINDS (bits) a GUEST of it IS of, but for GUEST. */
    private static void kindIs(Checks c, int letter, int kind, int isOf) {
        SecondRoom x = new SecondRoom();
        Checks.write(x, 0, "n2x000o0000");
        x.put(0, 2, letter);
        c.due("hotel with the letter " + letter, x.hotel(0), 1);
        c.due("the KIND of " + letter, x, x.guest(0, 0), 1, kind);
        for (int k = 1; k <= 5; k++) {
            int of = k;
            if ((isOf >> k & 1) == 1) {
                c.due("mark(0, " + k + ") of " + letter + " is told", x.mark(0, k) >= 0 ? 1 : 0, 1);
            } else {
                c.found("mark(0, " + k + ") of " + letter, x, () -> x.mark(0, of), UNLIKE);
            }
        }
    }

    private static void kinds(Sentences s) {
        s.ofTerms(KINDS, "KINDS of GUESTS and letters: 0 GUEST (g, 103)", c -> kindIs(c, 103, 0, 0));
        s.ofTerms(KINDS, "1 SOLDIER (s, 115; a GUEST)", c -> kindIs(c, 115, 1, 1 << 1));
        s.ofTerms(KINDS, "2 CLERK (c, 99; a GUEST)", c -> kindIs(c, 99, 2, 1 << 2));
        s.ofTerms(KINDS, "3 PRIEST (p, 112; a GUEST)", c -> kindIs(c, 112, 3, 1 << 3));
        s.ofTerms(KINDS, "4 COLONEL (l, 108; a SOLDIER)", c -> kindIs(c, 108, 4, 1 << 1 | 1 << 4));
        s.ofTerms(KINDS, "5 CURATE (u, 117; a PRIEST).", c -> kindIs(c, 117, 5, 1 << 3 | 1 << 5));
    }

    private static void lives(Sentences s) {
        s.ofTerms("A LIFE is told by bits: bit k what was chosen at TURN k.", c -> {
            String[] chosen = {"00", "10", "01", "11", "000000", "100000", "000001", "011110", "111111"};
            int[] lives = {0, 1, 2, 3, 0, 1, 32, 30, 63};
            for (int i = 0; i < chosen.length; i++) {
                SecondRoom x = Checks.hotelOf("n" + chosen[i].length() + "g" + chosen[i] + "0o0000");
                c.due("the LIFE of " + chosen[i], x, x.guest(0, 2), 1, lives[i]);
            }
        });
    }

    private static final String SECOND = "The SECOND's LIFE is that of a GUEST, but at its TURN the other choice; "
        + "of a SOLDIER (COLONEL, too) the other choice from that TURN on at all; of a COLONEL at TURN 0 as well "
        + "(whatever its TURN is: there it is the other choice); of a CLERK that of a GUEST, but 0 at all TURNS behind "
        + "its TURN; of a PRIEST (CURATE, too) that of a GUEST, but at the last TURN what the PRIEST chose at TURN 0; "
        + "of a CURATE that of a PRIEST, but at TURN 0 what the CURATE chose there.";

    /** The SECOND's LIFE of a GUEST (a letter, choices, its TURN), by its TEXT and by turn(). */
    private static void secondIs(Checks c, String guest, int turn, int life) {
        int turns = guest.length() - 1;
        SecondRoom x = Checks.hotelOf("n" + turns + guest + turn + "o0000");
        c.due("the SECOND's LIFE of " + guest + ", TURN " + turn, x, x.guest(0, 3), 1, life);
        x.turn(0, (turn + 1) % turns);
        x.turn(0, turn);
        c.due("the SECOND's LIFE of " + guest + ", behind turn(0, " + turn + ")", x, x.guest(0, 3), 1, life);
    }

    private static void secondOfGuest(Sentences s) {
        s.ofTerms(SECOND, "The SECOND's LIFE is that of a GUEST, but at its TURN the other choice", c -> {
            secondIs(c, "g00", 0, 1);
            secondIs(c, "g11", 1, 1);
            secondIs(c, "g000000", 0, 1);
            secondIs(c, "g000000", 5, 32);
            secondIs(c, "g111111", 0, 62);
            secondIs(c, "g111111", 5, 31);
            secondIs(c, "g010101", 2, 46);
        });
    }

    private static void secondOfSoldiers(Sentences s) {
        s.ofTerms(SECOND, "of a SOLDIER (COLONEL, too) the other choice from that TURN on at all", c -> {
            secondIs(c, "s00", 0, 3);
            secondIs(c, "s00", 1, 2);
            secondIs(c, "s000000", 0, 63);
            secondIs(c, "s000000", 5, 32);
            secondIs(c, "s111111", 0, 0);
            secondIs(c, "s111111", 5, 31);
            secondIs(c, "s010101", 3, 18);
            secondIs(c, "l000000", 3, 57);
            secondIs(c, "l111111", 3, 6);
        });
        s.ofTerms(SECOND, "of a COLONEL at TURN 0 as well (whatever its TURN is: there it is the other choice)", c -> {
            secondIs(c, "l00", 0, 3);
            secondIs(c, "l00", 1, 3);
            secondIs(c, "l11", 0, 0);
            secondIs(c, "l11", 1, 0);
            secondIs(c, "l000000", 0, 63);
            secondIs(c, "l000000", 1, 63);
            secondIs(c, "l000000", 5, 33);
            secondIs(c, "l111111", 0, 0);
            secondIs(c, "l111111", 5, 30);
        });
    }

    private static void secondOfClerk(Sentences s) {
        s.ofTerms(SECOND, "of a CLERK that of a GUEST, but 0 at all TURNS behind its TURN", c -> {
            secondIs(c, "c11", 0, 0);
            secondIs(c, "c11", 1, 1);
            secondIs(c, "c01", 0, 1);
            secondIs(c, "c01", 1, 0);
            secondIs(c, "c111111", 0, 0);
            secondIs(c, "c111111", 4, 15);
            secondIs(c, "c111111", 5, 31);
            secondIs(c, "c000000", 0, 1);
            secondIs(c, "c000000", 5, 32);
            secondIs(c, "c101111", 1, 3);
        });
    }

    private static void secondOfPriests(Sentences s) {
        s.ofTerms(SECOND, "of a PRIEST (CURATE, too) that of a GUEST, but at the last TURN what the PRIEST chose "
            + "at TURN 0", c -> {
            secondIs(c, "p10", 0, 2);
            secondIs(c, "p10", 1, 3);
            secondIs(c, "p01", 0, 1);
            secondIs(c, "p01", 1, 0);
            secondIs(c, "p00", 1, 0);
            secondIs(c, "p100000", 0, 32);
            secondIs(c, "p100000", 5, 33);
            secondIs(c, "p100000", 4, 49);
            secondIs(c, "p000001", 0, 1);
            secondIs(c, "p000001", 5, 0);
            secondIs(c, "p000001", 4, 16);
            secondIs(c, "u100000", 4, 49);
            secondIs(c, "u000001", 4, 16);
        });
        s.ofTerms(SECOND, "of a CURATE that of a PRIEST, but at TURN 0 what the CURATE chose there.", c -> {
            secondIs(c, "u10", 0, 3);
            secondIs(c, "u10", 1, 3);
            secondIs(c, "u01", 0, 0);
            secondIs(c, "u01", 1, 0);
            secondIs(c, "u100000", 0, 33);
            secondIs(c, "u100000", 5, 33);
            secondIs(c, "u000001", 0, 0);
            secondIs(c, "u000001", 5, 0);
            secondIs(c, "u010100", 0, 10);
        });
    }

    private static void hasIs(Checks c, String thing, int... lives) {
        SecondRoom x = Checks.hotelOf("n2g000" + thing);
        for (int life = 0; life < 4; life++) {
            c.due("has(" + life + ") of " + thing, x.has(life), lives[life]);
        }
    }

    private static void things(Sentences s) {
        s.ofTerms("A LIFE HAS a THING, if at both TURNS that it tells was chosen so.", c -> {
            hasIs(c, "o0111", 0, 0, 0, 1);
            hasIs(c, "o1101", 0, 0, 0, 1);
            hasIs(c, "o0010", 1, 0, 0, 0);
            hasIs(c, "o0110", 0, 1, 0, 0);
            hasIs(c, "o0011", 0, 0, 1, 0);
            hasIs(c, "o0101", 0, 1, 0, 1);
            hasIs(c, "o1010", 1, 1, 0, 0);
            hasIs(c, "o0001", 0, 0, 0, 0);
            hasIs(c, "o1110", 0, 0, 0, 0);
            SecondRoom last = Checks.hotelOf("n6g0000000o0151o5050");
            c.due("has(33), the first TURN and the last", last.has(33), 1);
            c.due("has(32)", last.has(32), 0);
            c.due("has(1)", last.has(1), 2);
        });
    }
}
