/** Promises 21 to 29: things, both, apart, has; fits, looks, drawer, lives, nearest. */
public final class LivesTest {
    private static final int BAD = SecondRoom.BAD, STATE = SecondRoom.STATE, NONE = SecondRoom.NONE;
    /** LIVES 5, 6, 7, 1, 6; the SECONDS' 7, 0, 1, 4, 2. THING 3 none HAS. */
    private static final String FIVE = "n3 g1011s0111c1111p1000u0110 o0111o2020o0021o1011";
    /** THINGS that LIVES 0 .. 7 HAVE in it. */
    private static final int[] THINGS = {2, 2, 2, 3, 4, 0, 4, 1};
    private static final Checks c = new Checks("LivesTest");

    private static void things() {
        SecondRoom x = Checks.hotelOf(FIVE);
        int[][] due = {{0, 1}, {4, 2}, {1, 2}, {2, 4}, {4, 2}};
        for (int g = 0; g < 5; g++) {
            for (int room = 0; room < 2; room++) {
                c.due("things(" + g + ", " + room + ")", x.things(g, room), due[g][room]);
            }
        }
        x.change(0);
        c.due("things(0, 0), changed over", x.things(0, 0), 0);
        c.refused("things(0, 2)", x, () -> x.things(0, 2), BAD);
        c.refused("things(0, -1)", x, () -> x.things(0, -1), BAD);
        c.refused("things(5, 0)", x, () -> x.things(5, 0), BAD);
        c.refused("things(-1, 0)", x, () -> x.things(-1, 0), BAD);
    }

    private static void both() {
        SecondRoom x = Checks.hotelOf(FIVE);
        c.due("both(0)", x, x.both(0), 0, 1);
        c.due("both(1)", x, x.both(1), 0, 6);
        SecondRoom y = Checks.hotelOf("n3 u1101 o0101o2020o2121o1010");
        c.due("both of LIVES 3, 5", y, y.both(0), 1, 14);
        c.refused("both(5)", x, () -> x.both(5), BAD);
        c.refused("both(-1)", x, () -> x.both(-1), BAD);
    }

    private static void apart() {
        SecondRoom x = Checks.hotelOf(FIVE);
        int[][] due = {{1, 1}, {2, 1}, {2, 1}, {2, 0}, {1, 2}};
        for (int g = 0; g < 5; g++) {
            c.due("apart(" + g + ")", x, x.apart(g), due[g][0], due[g][1]);
        }
        SecondRoom alike = Checks.hotelOf("n2 p001 o0000");
        c.due("apart of LIVES alike", alike, alike.apart(0), 0, NONE);
        SecondRoom all = Checks.hotelOf("n6 s0000000 o0000");
        c.due("apart of LIVES unlike at all", all, all.apart(0), 6, 0);
        c.refused("apart(5)", x, () -> x.apart(5), BAD);
        c.refused("apart(-1)", x, () -> x.apart(-1), BAD);
    }

    private static void has() {
        SecondRoom x = Checks.hotelOf(FIVE);
        for (int life = 0; life < 8; life++) {
            c.due("has(" + life + ")", x.has(life), THINGS[life]);
        }
        c.refused("has(8)", x, () -> x.has(8), BAD);
        c.refused("has(-1)", x, () -> x.has(-1), BAD);
        SecondRoom none = new SecondRoom();
        c.refused("has(0), no GUESTS", none, () -> none.has(0), STATE);
        c.refused("has(-1), no GUESTS", none, () -> none.has(-1), STATE);
    }

    private static void fits() {
        SecondRoom x = Checks.hotelOf(FIVE);
        c.due("fits(0, 4)", x.fits(0, 4), 1);
        c.due("fits(0, 1)", x.fits(0, 1), 2);
        c.due("fits(0, 2)", x.fits(0, 2), 4);
        c.due("fits(0, 0)", x.fits(0, 0), 0);
        c.due("fits(0, 3)", x.fits(0, 3), 0);
        c.due("fits(1, 2)", x.fits(1, 2), 7);
        c.due("fits(2, 2)", x.fits(2, 2), 3);
        c.due("fits(3, 0)", x.fits(3, 0), 4);
        c.due("fits(4, 15)", x.fits(4, 15), 0);
        c.refused("fits(0, 16)", x, () -> x.fits(0, 16), BAD);
        c.refused("fits(0, -1)", x, () -> x.fits(0, -1), BAD);
        c.refused("fits(5, 0)", x, () -> x.fits(5, 0), BAD);
        c.refused("fits(-1, 0)", x, () -> x.fits(-1, 0), BAD);
    }

    private static void looks() {
        SecondRoom x = Checks.hotelOf(FIVE);
        c.due("looks(0)", x, x.looks(0), 2, 3);
        c.due("looks(1), but one set", x, x.looks(1), 0, 0);
        c.due("looks(2)", x, x.looks(2), 1, 1);
        c.due("looks(3)", x, x.looks(3), 2, 5);
        SecondRoom later = Checks.hotelOf("n2 g000 o0001o0101");
        c.due("looks: THING 0 tells nothing", later, later.looks(0), 1, 2);
        SecondRoom fewer = Checks.hotelOf("n4 g00000 o0101o1111o2121o3131");
        c.due("looks: four unlike sets, three THINGS", fewer, fewer.looks(0), 3, 7);
        c.refused("looks(5)", x, () -> x.looks(5), BAD);
        c.refused("looks(-1)", x, () -> x.looks(-1), BAD);
    }

    private static void drawer() {
        SecondRoom x = Checks.hotelOf(FIVE);
        c.due("drawer(0), the first of as good", x, x.drawer(0), 0, 2);
        c.due("drawer(1), none tells anything", x, x.drawer(1), 0, 3);
        c.due("drawer(2)", x, x.drawer(2), 0, 2);
        SecondRoom y = Checks.hotelOf("n4 s00000 o0101 o2121 o1111 o3030");
        c.due("drawer: in ROOM 1 by TURNS 0; 0, 1, 2; 0, 1; none", y, y.drawer(0), 2, 2);
        SecondRoom last = Checks.hotelOf("n2 g000 o0001 o0001");
        c.due("drawer: none behind the last", last, last.drawer(0), 0, 2);
        SecondRoom z = Checks.hotelOf("n4 g00000 o0001 o0000 o0101");
        c.due("drawer: not there counts as well", z, z.drawer(0), 1, 3);
        c.refused("drawer(5)", x, () -> x.drawer(5), BAD);
        c.refused("drawer(-1)", x, () -> x.drawer(-1), BAD);
    }

    private static void lives() {
        SecondRoom x = Checks.hotelOf(FIVE);
        c.due("lives(2)", x, x.lives(2), 3, 0);
        c.due("lives(4)", x, x.lives(4), 2, 4);
        c.due("lives(0)", x, x.lives(0), 1, 5);
        c.due("lives(3)", x, x.lives(3), 1, 3);
        c.due("lives(8)", x, x.lives(8), 0, NONE);
        c.refused("lives(16)", x, () -> x.lives(16), BAD);
        c.refused("lives(-1)", x, () -> x.lives(-1), BAD);
        SecondRoom none = new SecondRoom();
        c.refused("lives(0), no GUESTS", none, () -> none.lives(0), STATE);
        c.refused("lives(-1), no GUESTS", none, () -> none.lives(-1), STATE);
    }

    private static void nearest() {
        SecondRoom x = Checks.hotelOf(FIVE);
        c.due("nearest(0, 0)", x, x.nearest(0, 0), 1, 7);
        c.due("nearest(0, 1)", x, x.nearest(0, 1), 1, 1);
        c.due("nearest(0, 2)", x, x.nearest(0, 2), 1, 4);
        c.due("nearest(1, 2), had already", x, x.nearest(1, 2), 0, 6);
        c.due("nearest(3, 2), two TURNS", x, x.nearest(3, 2), 2, 4);
        SecondRoom nought = Checks.hotelOf("n2 g110 o0010 o1010");
        c.due("nearest: LIFE 0", nought, nought.nearest(0, 0), 2, 0);
        c.refused("nearest(0, 3), none HAS it", x, () -> x.nearest(0, 3), NONE);
        c.refused("nearest(0, 4)", x, () -> x.nearest(0, 4), BAD);
        c.refused("nearest(0, -1)", x, () -> x.nearest(0, -1), BAD);
        c.refused("nearest(5, 0)", x, () -> x.nearest(5, 0), BAD);
        c.refused("nearest(-1, 0)", x, () -> x.nearest(-1, 0), BAD);
    }

    public static void main(String[] args) {
        things();
        both();
        apart();
        has();
        fits();
        looks();
        drawer();
        lives();
        nearest();
        c.end();
    }
}
