/** Promises 8 to 11: text, put, fault, hotel. */
public final class TextsTest {
    private static final int BAD = SecondRoom.BAD, STATE = SecondRoom.STATE, NONE = SecondRoom.NONE;
    private static final int NOTHING = 1, BEYOND = 2, SIZE = 5;
    private static final String GOOD = "n2g011o1101";
    private static final Checks c = new Checks("TextsTest");

    private static void text() {
        SecondRoom x = new SecondRoom();
        c.due("text(0, 60)", x.text(0, 60), 60);
        c.due("put(0, 59, 1) tells a blank", x.put(0, 59, 1), 1032);
        c.due("text(3, 0)", x.text(3, 0), 0);
        c.due("count(8)", x.count(8), 2);
        x.put(0, 0, 65);
        c.due("text(0, 2) anew", x.text(0, 2), 2);
        c.due("put(0, 0, 65) tells a blank", x.put(0, 0, 65), 1032);
        c.refused("text(0, 61)", x, () -> x.text(0, 61), BAD);
        c.refused("text(4, 1)", x, () -> x.text(4, 1), BAD);
        c.refused("text(-1, -1)", x, () -> x.text(-1, -1), BAD);
        c.found("text(0, -1)", x, () -> x.text(0, -1), SIZE);
        c.found("text(1, MIN)", x, () -> x.text(1, Integer.MIN_VALUE), SIZE);
    }

    private static void put() {
        SecondRoom x = new SecondRoom();
        x.text(1, 2);
        x.text(2, 1);
        c.due("put(1, 1, 100)", x.put(1, 1, 100), 1032);
        c.due("put(1, 1, 128)", x.put(1, 1, 128), 1100);
        c.due("put(1, 1, 255), behind 128 cut to a byte", x.put(1, 1, 255), 872);
        c.due("put(1, 1, 256 + 7), behind 255 cut to a byte", x.put(1, 1, 263), 999);
        c.due("put(1, 1, -129), behind 263 cut to a byte", x.put(1, 1, -129), 1007);
        c.due("put(1, 1, 0), behind -129 cut to a byte", x.put(1, 1, 0), 1127);
        c.due("put(2, 0, 0): the next TEXT is as it was", x.put(2, 0, 0), 1032);
        c.refused("put(4, 0, 0)", x, () -> x.put(4, 0, 0), BAD);
        c.refused("put(-1, 0, 0)", x, () -> x.put(-1, 0, 0), BAD);
        c.found("put(0, -1, 0)", x, () -> x.put(0, -1, 0), NOTHING);
        c.found("put(1, 2, 0)", x, () -> x.put(1, 2, 0), BEYOND);
        c.found("put(1, -1, 0)", x, () -> x.put(1, -1, 0), BEYOND);
        c.found("put(1, MAX, 0)", x, () -> x.put(1, Integer.MAX_VALUE, 0), BEYOND);
    }

    private static void faultIs(String text, int want) {
        SecondRoom x = new SecondRoom();
        Checks.write(x, 2, text);
        long before = x.digest();
        c.due("fault of \"" + text + "\"", x.fault(2), want);
        c.due("digest() behind fault of \"" + text + "\"", x.digest(), before);
    }

    private static void noFault() {
        faultIs(GOOD, NONE);
        faultIs("  n2  g011   o1101  ", NONE);
        faultIs("n2g011s102c010p000l111o1101", 9);
        faultIs("n2g011s101c010p000l111o1101", NONE);
        faultIs("n3u0112o2001", NONE);
        faultIs("n6g0101015o5151", NONE);
        faultIs("n2g011o1110", NONE);
        faultIs("n2g000o0000o0000o0000o0000o0000o0000o0000o0000", NONE);
    }

    private static void faultAtTurns() {
        faultIs("", 0);
        faultIs("    ", 4);
        faultIs("x", 0);
        faultIs("  g011", 2);
        faultIs("2", 0);
        faultIs("N2", 0);
        faultIs("n", 1);
        faultIs("n ", 1);
        faultIs(" n1g00o0000", 2);
        faultIs("n7", 1);
        faultIs("n0", 1);
        faultIs("nn", 1);
        faultIs("n 2", 1);
        faultIs("n22", 2);
        faultIs("n2", 2);
        faultIs("n2  ", 4);
        faultIs("n2n2", 2);
    }

    private static void faultAtGuests() {
        faultIs("n2o0000", 2);
        faultIs("n2 o0000", 3);
        faultIs("n2 a", 3);
        faultIs("n2 G", 3);
        faultIs("n2g", 3);
        faultIs("n2g 00", 3);
        faultIs("n2g2", 3);
        faultIs("n2g0", 4);
        faultIs("n2g02", 4);
        faultIs("n2g0 1", 4);
        faultIs("n2g01", 5);
        faultIs("n2g01 1", 5);
        faultIs("n2g012", 5);
        faultIs("n2g01o", 5);
        faultIs("n6g0000006", 9);
        faultIs("n6g0000005", 10);
        faultIs("n2g011", 6);
        faultIs("n2g011  ", 8);
        faultIs("n2g0110", 6);
        faultIs("n2g011n", 6);
        faultIs("n2g011g011g011g011g011g011o0000", 22);
        faultIs("n2g011g011g011g011g011 s", 23);
        faultIs("n2g011g011g011g011g011", 22);
    }

    private static void faultAtThings() {
        faultIs("n2g011o", 7);
        faultIs("n2g011o ", 7);
        faultIs("n2g011o2", 7);
        faultIs("n2g011o1", 8);
        faultIs("n2g011o12", 8);
        faultIs("n2g011o11", 9);
        faultIs("n2g011o112", 9);
        faultIs("n2g011o11 ", 9);
        faultIs("n2g011o110", 10);
        faultIs("n2g011o1102", 10);
        faultIs("n2g011o110o", 10);
        faultIs(GOOD + "g011", 11);
        faultIs(GOOD + " s011", 12);
        faultIs(GOOD + "1", 11);
        faultIs(GOOD + "x", 11);
        faultIs(GOOD + " n", 12);
        faultIs("n2g000o0000o0000o0000o0000o0000o0000o0000o0000o", 46);
        faultIs("n2g000o0000o0000o0000o0000o0000o0000o0000o0000 g", 47);
    }

    private static void faultOfBytes() {
        SecondRoom x = new SecondRoom();
        Checks.write(x, 0, GOOD);
        x.put(0, 4, 0xFF);
        c.due("fault: a byte below 0", x.fault(0), 4);
        x.put(0, 4, 49 + 256);
        c.due("fault: 256 more is cut off", x.fault(0), NONE);
        c.refused("fault(4)", x, () -> x.fault(4), BAD);
        c.refused("fault(-1)", x, () -> x.fault(-1), BAD);
        c.found("fault(1)", x, () -> x.fault(1), NOTHING);
        x.put(0, 0, 0);
        int finding = x.finding();
        c.due("fault of a TEXT that has one", x.fault(0), 0);
        c.due("which is no FINDING", x.finding(), finding);
    }

    private static void hotel() {
        SecondRoom x = new SecondRoom();
        Checks.write(x, 0, "n3 s0101 l1112 o0121");
        Checks.write(x, 1, "n2 g011 g011 g000 o0000 o1111 x");
        c.due("hotel(0)", x.hotel(0), 2);
        c.due("count(0)", x.count(0), 2);
        c.due("count(1)", x.count(1), 3);
        c.due("count(2)", x.count(2), 1);
        c.refused("hotel(1), a FAULT", x, () -> x.hotel(1), STATE);
        c.refused("hotel(4)", x, () -> x.hotel(4), BAD);
        c.refused("hotel(-1)", x, () -> x.hotel(-1), BAD);
        c.found("hotel(2)", x, () -> x.hotel(2), NOTHING);
        c.due("guest(1, 1)", x, x.guest(1, 1), 1, 2);
        x.put(1, 30, 32);
        x.turn(0, 0);
        x.change(0);
        x.lock(1, 1);
        x.use(0);
        x.keep(2);
        c.due("hotel(1), mended", x.hotel(1), 3);
        int[] counts = {3, 2, 2, 0, 0, 0, 0, 0, 2, 0};
        for (int what = 0; what < counts.length; what++) {
            c.due("hotel(1), count(" + what + ")", x.count(what), counts[what]);
        }
        c.due("hotel(1), HOURS of ROOM 1", x, x.guest(0, 7), 1, 0);
        c.found("hotel(1), on(2)", x, () -> x.on(2), NOTHING);
        c.due("hotel(0) again", x.hotel(0), 2);
        c.due("its TURN is the TEXT's", x, x.guest(0, 1), 1, 1);
        x.text(0, 0);
        c.due("a HOTEL stays when its TEXT goes", x.count(0), 2);
    }

    public static void main(String[] args) {
        text();
        put();
        noFault();
        faultAtTurns();
        faultAtGuests();
        faultAtThings();
        faultOfBytes();
        hotel();
        c.end();
    }
}
