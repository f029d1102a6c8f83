/** Promises 41 to 47: asked, upper, lower, count, finding, findings, digest. */
public final class ToldTest {
    private static final int BAD = SecondRoom.BAD, NONE = SecondRoom.NONE;
    private static final String FIVE = "n3 g1011s0111l1111p1000u0110 o0111o2020o0021o1011";
    private static final Checks c = new Checks("ToldTest");

    /** Each call that asked() tells of is told; those that it does not tell of leave it. */
    private static void asked() {
        SecondRoom x = Checks.hotelOf(FIVE);
        c.due("asked() before", x.asked(), 0);
        x.row(0, 1);
        x.lay(0, 0, 77);
        c.due("lay(0, 0, 78)", x, x.lay(0, 0, 78), 1, 77);
        c.due("tear, copy, text, put, turn leave it", x.copy(0, 0, 0, 0, 1) + x.text(1, 1) + x.put(1, 0, 5), 1034);
        c.due("asked() as it was", x.asked(), 77);
        c.due("at(0, 0)", x, x.at(0, 0), 1, 78);
        x.row(1, 1);
        c.due("mean(1)", x, x.mean(1), 1, 0);
        x.lay(0, 0, -5);
        c.due("things leaves it", x, x.things(0, 1), 1, 78);
        c.due("has leaves it", x, x.has(3), 3, 78);
        c.due("twins leaves it", x, x.twins(0), 4, 78);
        c.due("who leaves it", x, x.who(0, 0), 3, 78);
        c.due("fits leaves it", x, x.fits(0, 1), 2, 78);
        c.due("mark leaves it", x, x.mark(1, 1), 2, 78);
        c.due("use leaves it", x, x.use(0), 1, 78);
        c.due("bill leaves it", x, x.bill(0, 0), 2, 78);
        c.due("spread leaves it", x, x.spread(0), 1, 78);
        c.due("odds leaves it", x, x.odds(0, 0), 1, 78);
        c.due("lots leaves it", x, x.lots(1, 4), 0, 78);
        c.due("pays leaves it", x, x.pays(0), 0, 78);
        c.due("keep leaves it", x, x.keep(0), 2, 78);
        c.due("nearest, NONE, leaves it", x, x.nearest(0, 3), NONE, 78);
        c.due("ring, NONE, leaves it", x, x.ring(), NONE, 78);
        c.due("marks, NONE, leaves it", x, x.marks(), NONE, 78);
        c.due("digest leaves it", x, x.digest() - x.digest(), 0, 78);
        c.due("lives tells NONE", x, x.lives(8), 0, NONE);
        c.due("pairs tells NONE", x, x.pairs(), 0, NONE);
    }

    private static void shares() {
        SecondRoom x = Checks.hotelOf(FIVE);
        x.spread(3);
        c.due("upper() of spread", x.upper(), 5);
        c.due("lower() of spread", x.lower(), 3);
        x.odds(9, 0);
        c.due("upper() behind what was refused", x.upper(), 5);
        x.odds(0, 3);
        c.due("upper() of none", x.upper(), 0);
        c.due("lower() of none", x.lower(), 1);
    }

    private static void count() {
        SecondRoom x = Checks.hotelOf(FIVE);
        x.row(0, 0);
        x.row(5, 40);
        x.row(3, 1);
        x.tear(0);
        x.text(3, 0);
        x.change(2);
        x.change(4);
        x.lock(0, 1);
        x.lock(4, 1);
        x.use(1);
        x.keep(1);
        int[] due = {5, 3, 4, 5, 20, 17, 2, 2, 2, 1};
        for (int what = 0; what < 10; what++) {
            c.due("count(" + what + ")", x.count(what), due[what]);
        }
        c.refused("count(10)", x, () -> x.count(10), BAD);
        c.refused("count(-1)", x, () -> x.count(-1), BAD);
    }

    private static void findings() {
        SecondRoom x = new SecondRoom();
        x.row(0, 9999);
        c.due("BAD is no FINDING", x.finding(), 0);
        x.at(0, 0);
        x.row(0, 0);
        c.due("finding() stays behind what was not refused", x.finding(), 1);
        x.at(0, 0);
        c.due("finding() BEYOND", x.finding(), 2);
        x.mean(0);
        c.due("finding() NOUGHT", x.finding(), 4);
        x.row(0, -1);
        x.text(0, -1);
        c.due("finding() SIZE", x.finding(), 5);
        Checks.write(x, 0, FIVE);
        x.hotel(0);
        x.mark(0, 1);
        c.due("finding() UNLIKE", x.finding(), 3);
        x.hotel(9);
        c.due("finding() stays behind BAD", x.finding(), 3);
        int[] due = {1, 1, 1, 1, 2};
        for (int f = 1; f <= 5; f++) {
            c.due("findings(" + f + ")", x.findings(f), due[f - 1]);
        }
        c.refused("findings(0)", x, () -> x.findings(0), BAD);
        c.refused("findings(6)", x, () -> x.findings(6), BAD);
        c.refused("findings(-1)", x, () -> x.findings(-1), BAD);
        c.refused("findings(MIN)", x, () -> x.findings(Integer.MIN_VALUE), BAD);
    }

    private static long digestOf(long... values) {
        long h = 17;
        for (long v : values) {
            h = 31 * h + v;
        }
        return h;
    }

    private static void digest() {
        SecondRoom x = new SecondRoom();
        c.due("digest() of a new object", x.digest(),
            digestOf(0, 0, 0, 0, 0, 0, 0, 0, 0, 0, -1, -1, -1, -1, -1, -1, -1, -1, -1, -1, -1, -1, -1));
        Checks.write(x, 1, "n2 g011 l100 o0101");
        x.hotel(1);
        x.row(0, 0);
        x.row(4, 2);
        x.lay(4, 1, -8);
        x.text(3, 1);
        x.put(3, 0, 200);
        x.use(0);
        x.change(1);
        x.keep(2);
        x.use(1);
        x.lock(1, 1);
        c.due("digest()", x.digest(), digestOf(
            2, 2, 1, 4, 2, 2, 1, 2, 2, 1,
            0, 1, 2, 0, 0, 0, 1, 0,
            4, 0, 1, 2, 1, 1, 0, 1,
            -1, -1, 2,
            0, -1, -1, -1, 2, 0, -8, -1,
            -1, 18, 110, 50, 32, 103, 48, 49, 49, 32, 108, 49, 48, 48, 32, 111, 48, 49, 48, 49, -1, 1, -56));
    }

    public static void main(String[] args) {
        asked();
        shares();
        count();
        findings();
        digest();
        c.end();
    }
}
