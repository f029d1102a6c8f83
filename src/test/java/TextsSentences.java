/** Promises 8 to 11: text, put, fault, hotel. */
final class TextsSentences {
    private static final int STATE = SecondRoom.STATE, NONE = SecondRoom.NONE;
    private static final int NOTHING = 1, BEYOND = 2, SIZE = 5;
    private static final int MIN = Integer.MIN_VALUE, MAX = Integer.MAX_VALUE;
    private static final int MOST = 60;
    private static final String GOOD = "n2g011o1101";

    private TextsSentences() {
    }

    static void all(Sentences s) {
        text(s);
        textRefused(s);
        put(s);
        putRefused(s);
        fault(s);
        hotel(s);
        hotelAnew(s);
        hotelRefused(s);
    }

    private static SecondRoom withText(int t, String text) {
        SecondRoom x = new SecondRoom();
        Checks.write(x, t, text);
        return x;
    }

    private static void blanksAre(Checks c, SecondRoom x, int t, int n) {
        for (int i = 0; i < n; i++) {
            c.due("put(" + t + ", " + i + ", 32)", x.put(t, i, 32), 1032);
        }
        c.due("put(" + t + ", " + n + ", 32)", x.put(t, n, 32), SecondRoom.FINDING);
    }

    private static void text(Sentences s) {
        s.of(8, "A TEXT is there with n blanks: n.", c -> {
            SecondRoom x = new SecondRoom();
            c.due("text(0, 0), the least", x.text(0, 0), 0);
            c.due("an empty TEXT is there", x.count(8), 1);
            blanksAre(c, x, 0, 0);
            c.due("text(3, 60), the most", x.text(3, MOST), MOST);
            blanksAre(c, x, 3, MOST);
            c.due("text(1, 1)", x.text(1, 1), 1);
            x.put(1, 0, 65);
            c.due("text(1, 0) anew", x.text(1, 0), 0);
            blanksAre(c, x, 1, 0);
            c.due("text(1, 2) anew", x.text(1, 2), 2);
            blanksAre(c, x, 1, 2);
        });
    }

    private static void textRefused(Sentences s) {
        String refused = "BAD: also n above 60; SIZE: below 0.";
        s.of(8, refused, "BAD", c -> {
            SecondRoom x = new SecondRoom();
            c.badOutside("text(.., 1)", x, t -> x.text(t, 1), 0, 3);
            c.badOutside("text(.., -1), SIZE as well", x, t -> x.text(t, -1), 0, 3);
        });
        s.of(8, refused, "also n above 60", c -> {
            SecondRoom x = withText(0, "A");
            c.refused("text(0, 61)", x, () -> x.text(0, 61), SecondRoom.BAD);
            c.refused("text(1, MAX)", x, () -> x.text(1, MAX), SecondRoom.BAD);
            c.due("text(0, 60)", x.text(0, 60), 60);
        });
        s.of(8, refused, "SIZE: below 0", c -> {
            SecondRoom x = withText(0, "A");
            c.found("text(0, -1)", x, () -> x.text(0, -1), SIZE);
            c.found("text(1, MIN)", x, () -> x.text(1, MIN), SIZE);
            c.due("text(0, 0)", x.text(0, 0), 0);
        });
    }

    private static void put(Sentences s) {
        String put = "Byte i of a TEXT is v, cut to a byte: what it was, and 1000 more.";
        s.of(9, put, "Byte i of a TEXT is v", c -> {
            SecondRoom x = new SecondRoom();
            x.text(2, MOST);
            x.text(3, 1);
            c.due("put(2, 0, 65), the first", x.put(2, 0, 65), 1032);
            c.due("put(2, 59, 66), the last", x.put(2, 59, 66), 1032);
            c.due("put(2, 0, 0)", x.put(2, 0, 0), 1065);
            c.due("put(2, 59, 0)", x.put(2, 59, 0), 1066);
            c.due("put(2, 1, 0), the next one", x.put(2, 1, 0), 1032);
            c.due("put(2, 58, 0), the one ahead", x.put(2, 58, 0), 1032);
            c.due("put(3, 0, 0), the next TEXT", x.put(3, 0, 0), 1032);
        });
        s.of(9, put, "cut to a byte: what it was, and 1000 more.", c -> {
            SecondRoom x = withText(0, " ");
            int[][] cut = {{0, 1000}, {1, 1001}, {127, 1127}, {128, 872}, {255, 999}, {256, 1000}, {257, 1001},
                {383, 1127}, {384, 872}, {-1, 999}, {-128, 872}, {-129, 1127}, {-256, 1000}, {MAX, 999}, {MIN, 1000},
                {MIN + 128, 872}};
            for (int[] v : cut) {
                x.put(0, 0, v[0]);
                c.due("put(0, 0, 0) behind put(0, 0, " + v[0] + ")", x.put(0, 0, 0), v[1]);
            }
        });
    }

    private static void putRefused(Sentences s) {
        String refused = "BAD; NOTHING; BEYOND.";
        s.of(9, refused, "BAD", c -> {
            SecondRoom x = withText(0, "A");
            c.badOutside("put(.., 0, 1)", x, t -> x.put(t, 0, 1), 0, 3);
        });
        s.of(9, refused, "NOTHING", c -> {
            SecondRoom x = withText(0, "A");
            c.found("put(1, 0, 1)", x, () -> x.put(1, 0, 1), NOTHING);
            c.found("put(3, -1, 1), BEYOND as well", x, () -> x.put(3, -1, 1), NOTHING);
        });
        s.of(9, refused, "BEYOND", c -> {
            SecondRoom x = withText(0, "AB");
            int[] beyond = {-1, 2, MOST, MIN, MAX};
            for (int i : beyond) {
                c.found("put(0, " + i + ", 1) of two", x, () -> x.put(0, i, 1), BEYOND);
            }
            x.text(1, 0);
            c.found("put(1, 0, 1), an empty TEXT", x, () -> x.put(1, 0, 1), BEYOND);
            x.text(2, MOST);
            c.found("put(2, 60, 1) of 60", x, () -> x.put(2, MOST, 1), BEYOND);
        });
    }

    private static void fault(Sentences s) {
        s.of(10, "A FAULT of a TEXT; NONE: there is none.", "A FAULT of a TEXT", c -> {
            SecondRoom x = withText(0, "x" + GOOD);
            Checks.write(x, 3, GOOD + "x");
            c.refused("fault(0), the first place", x, () -> x.fault(0), 0);
            c.refused("fault(3), the last place", x, () -> x.fault(3), 11);
            x.text(1, 0);
            c.refused("fault(1), an empty TEXT", x, () -> x.fault(1), 0);
            x.text(2, MOST);
            c.refused("fault(2), 60 blanks", x, () -> x.fault(2), MOST);
        });
        s.of(10, "A FAULT of a TEXT; NONE: there is none.", "NONE: there is none.", c -> {
            SecondRoom x = withText(0, GOOD);
            Checks.write(x, 3, " " + GOOD + " ".repeat(MOST - 1 - GOOD.length()));
            c.refused("fault(0)", x, () -> x.fault(0), NONE);
            c.refused("fault(3), of 60 bytes", x, () -> x.fault(3), NONE);
            c.due("fault(0) takes no HOTEL", x.count(0), 0);
        });
        s.of(10, "BAD; NOTHING.", "BAD", c -> {
            SecondRoom x = withText(0, GOOD);
            c.badOutside("fault(..)", x, x::fault, 0, 3);
        });
        s.of(10, "BAD; NOTHING.", "NOTHING", c -> {
            SecondRoom x = withText(0, GOOD);
            c.found("fault(1)", x, () -> x.fault(1), NOTHING);
            c.found("fault(3)", x, () -> x.fault(3), NOTHING);
        });
    }

    private static final String HOTEL =
        "A HOTEL by a TEXT (anew: all IN ROOM 0, no DEEDS; kept HOTELS go): how many GUESTS.";

    private static void hotel(Sentences s) {
        s.of(11, HOTEL, "A HOTEL by a TEXT", c -> {
            SecondRoom x = withText(3, "n6 l1111115 o5151");
            Checks.write(x, 0, "n2 g000 s011 o0000 o1111");
            c.due("hotel(3)", x.hotel(3), 1);
            c.due("TURNS", x.count(1), 6);
            c.due("THINGS", x.count(2), 1);
            c.due("the LIFE", x, x.guest(0, 2), 1, 63);
            c.due("hotel(0)", x.hotel(0), 2);
            c.due("TURNS then", x.count(1), 2);
            c.due("THINGS then", x.count(2), 2);
            c.due("the LIFE then", x, x.guest(0, 2), 1, 0);
            c.due("the TURN then", x, x.guest(1, 1), 1, 1);
            x.text(0, 0);
            c.due("the HOTEL stays without its TEXT", x.count(0), 2);
        });
        s.of(11, HOTEL, "how many GUESTS.", c -> {
            String text = "n2";
            for (int guests = 1; guests <= 5; guests++) {
                text += " g000";
                SecondRoom x = withText(0, text + "o0000");
                c.due("hotel(0) of " + guests, x.hotel(0), guests);
                c.due("count(0) of " + guests, x.count(0), guests);
            }
        });
    }

    private static SecondRoom lived() {
        SecondRoom x = Checks.hotelOf("n2 g000 s011 o0000");
        x.turn(0, 1);
        x.keep(0);
        x.use(0);
        x.change(0);
        x.use(0);
        x.lock(0, 1);
        x.lock(1, 1);
        x.keep(2);
        return x;
    }

    private static void hotelAnew(Sentences s) {
        s.of(11, HOTEL, "(anew: all IN ROOM 0, no DEEDS", c -> {
            SecondRoom x = lived();
            c.due("hotel(0) anew", x.hotel(0), 2);
            c.stateIs("hotel(0) anew", x, 0, 0, 0, 0, 0, 0, 0);
            c.due("its TURN is the TEXT's", x, x.guest(0, 1), 1, 0);
            c.refused("undo(1)", x, () -> x.undo(1), SecondRoom.BAD);
        });
        s.of(11, HOTEL, "(anew: all IN ROOM 0, no DEEDS", c -> {
            SecondRoom x = Checks.hotelOf("n2 g000 g000 g000 g000 g000 o0000");
            for (int g = 0; g < 5; g++) {
                x.use(g);
                x.change(g);
                x.use(g);
                x.lock(g, 1);
            }
            c.stateIs("all have done much", x, 20, 31, 31, 1, 1, 1, 1, 1, 1, 1, 1, 1, 1);
            c.due("hotel(0) anew", x.hotel(0), 5);
            c.stateIs("hotel(0) anew", x, 0, 0, 0, 0, 0, 0, 0, 0, 0, 0, 0, 0, 0);
        });
        s.of(11, HOTEL, "kept HOTELS go", c -> {
            SecondRoom x = lived();
            c.due("count(9) ahead of it", x.count(9), 2);
            x.hotel(0);
            c.due("count(9)", x.count(9), 0);
            c.found("on(0)", x, () -> x.on(0), NOTHING);
            c.found("on(2)", x, () -> x.on(2), NOTHING);
            c.due("digest() is as if never kept", x.digest(), Checks.hotelOf("n2 g000 s011 o0000").digest());
        });
    }

    private static void hotelRefused(Sentences s) {
        String refused = "BAD; NOTHING; STATE: a FAULT.";
        s.of(11, refused, "BAD", c -> {
            SecondRoom x = lived();
            c.badOutside("hotel(..)", x, x::hotel, 0, 3);
        });
        s.of(11, refused, "NOTHING", c -> {
            SecondRoom x = lived();
            c.found("hotel(1)", x, () -> x.hotel(1), NOTHING);
            c.found("hotel(3)", x, () -> x.hotel(3), NOTHING);
        });
        s.of(11, refused, "STATE: a FAULT.", c -> {
            SecondRoom x = lived();
            Checks.write(x, 1, "n3 g1111 g1111 g1111 o2020 x");
            c.refused("hotel(1), a FAULT at the end", x, () -> x.hotel(1), STATE);
            c.due("on(2) behind it", x.on(2), 5);
            c.stateIs("on(2) behind it", x, 5, 1, 3, 1, 1, 0, 0);
            x.text(2, 0);
            c.refused("hotel(2), an empty TEXT", x, () -> x.hotel(2), STATE);
            x.put(1, 27, 32);
            c.due("hotel(1), mended", x.hotel(1), 3);
        });
        s.of(11, "(STATE behind NOTHING.)", c -> {
            SecondRoom x = new SecondRoom();
            c.found("hotel(0), missing", x, () -> x.hotel(0), NOTHING);
            x.text(0, 0);
            c.refused("hotel(0), empty", x, () -> x.hotel(0), STATE);
        });
    }
}
