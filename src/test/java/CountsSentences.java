import java.math.BigInteger;
import java.util.Arrays;

/** Promises 44 and 47: count, digest. */
final class CountsSentences {
    private static final String FIVE = "n6s0000000l0000000g0000000l0000000s0000000o0101o0000";

    private CountsSentences() {
    }

    static void all(Sentences s) {
        countOfHotel(s);
        countOfNight(s);
        countOfPapers(s);
        countRefused(s);
        digestOfCounts(s);
        digestOfGuests(s);
        digestOfPapers(s);
        digestWraps(s);
    }

    private static final String COUNT = "0 GUESTS, 1 TURNS, 2 THINGS, 3 DEEDS, 4 who is IN ROOM 1 (bits), "
        + "5 LOCKED doors (bits), 6 SOLDIERS (COLONELS, too), 7 ROWS, 8 TEXTS that are there, 9 kept HOTELS.";

    private static void countOfHotel(Sentences s) {
        s.of(44, COUNT, "0 GUESTS", c -> {
            c.due("count(0) at first", new SecondRoom().count(0), 0);
            c.due("count(0) of one", Checks.hotelOf("n2g000o0000").count(0), 1);
            c.due("count(0) of five", Checks.hotelOf(FIVE).count(0), 5);
        });
        s.of(44, COUNT, "1 TURNS", c -> {
            c.due("count(1) at first", new SecondRoom().count(1), 0);
            c.due("count(1) of two", Checks.hotelOf("n2g000o0000").count(1), 2);
            c.due("count(1) of six", Checks.hotelOf(FIVE).count(1), 6);
        });
        s.of(44, COUNT, "2 THINGS", c -> {
            c.due("count(2) at first", new SecondRoom().count(2), 0);
            c.due("count(2) of one", Checks.hotelOf("n2g000o0000").count(2), 1);
            String eight = "n2g000o0000o0000o0000o0000o0000o0000o0000o0000";
            c.due("count(2) of eight", Checks.hotelOf(eight).count(2), 8);
        });
        s.of(44, COUNT, "6 SOLDIERS (COLONELS, too)", c -> {
            c.due("count(6) at first", new SecondRoom().count(6), 0);
            c.due("count(6) of four", Checks.hotelOf(FIVE).count(6), 4);
            c.due("count(6) of none", Checks.hotelOf("n2 g000 c000 p000 u000 o0000").count(6), 0);
            c.due("count(6) of all", Checks.hotelOf("n2 s000 s000 s000 s000 l000 o0000").count(6), 5);
        });
    }

    private static void countOfNight(Sentences s) {
        s.of(44, COUNT, "3 DEEDS", c -> {
            SecondRoom x = Checks.hotelOf(FIVE);
            c.due("count(3), none", x.count(3), 0);
            x.lots(30, 5);
            Checks.use(x, 0, 30);
            c.due("count(3), 60", x.count(3), 60);
            x.use(0);
            c.due("count(3), no more", x.count(3), 60);
            x.undo(1);
            c.due("count(3), one", x.count(3), 1);
        });
        s.of(44, COUNT, "4 who is IN ROOM 1 (bits)", c -> {
            SecondRoom x = Checks.hotelOf(FIVE);
            c.due("count(4), none", x.count(4), 0);
            x.change(4);
            c.due("count(4), the last", x.count(4), 16);
            for (int g = 0; g < 4; g++) {
                x.change(g);
            }
            c.due("count(4), all", x.count(4), 31);
            x.change(4);
            c.due("count(4), all but the last", x.count(4), 15);
        });
        s.of(44, COUNT, "5 LOCKED doors (bits)", c -> {
            SecondRoom x = Checks.hotelOf(FIVE);
            c.due("count(5), none", x.count(5), 0);
            x.lock(4, 1);
            c.due("count(5), the last", x.count(5), 16);
            for (int g = 0; g < 4; g++) {
                x.lock(g, 1);
            }
            c.due("count(5), all", x.count(5), 31);
            x.lock(0, 0);
            c.due("count(5), all but the first", x.count(5), 30);
        });
        s.of(44, COUNT, "9 kept HOTELS.", c -> {
            SecondRoom x = Checks.hotelOf(FIVE);
            c.due("count(9), none", x.count(9), 0);
            for (int k = 0; k < 3; k++) {
                x.keep(2 - k);
                x.keep(2 - k);
                c.due("count(9), " + (k + 1), x.count(9), k + 1);
            }
            x.on(0);
            c.due("count(9) behind on(0)", x.count(9), 3);
            x.hotel(0);
            c.due("count(9) behind hotel(0)", x.count(9), 0);
        });
    }

    private static void countOfPapers(Sentences s) {
        s.of(44, COUNT, "7 ROWS", c -> {
            SecondRoom x = new SecondRoom();
            c.due("count(7), none", x.count(7), 0);
            for (int r = 0; r < 6; r++) {
                x.row(5 - r, r);
                x.row(5 - r, r);
                c.due("count(7), " + (r + 1), x.count(7), r + 1);
            }
            x.tear(5);
            c.due("count(7), one torn", x.count(7), 5);
            c.due("count(8), no TEXTS", x.count(8), 0);
        });
        s.of(44, COUNT, "8 TEXTS that are there", c -> {
            SecondRoom x = new SecondRoom();
            c.due("count(8), none", x.count(8), 0);
            for (int t = 0; t < 4; t++) {
                x.text(3 - t, t);
                x.text(3 - t, t);
                c.due("count(8), " + (t + 1), x.count(8), t + 1);
            }
            c.due("count(7), no ROWS", x.count(7), 0);
        });
    }

    private static void countRefused(Sentences s) {
        s.of(44, "BAD.", c -> {
            SecondRoom x = Checks.hotelOf(FIVE);
            c.badOutside("count(..)", x, x::count, 0, 9);
            SecondRoom none = new SecondRoom();
            c.badOutside("count(..), no GUESTS", none, none::count, 0, 9);
        });
    }

    private static final String DIGEST = "h = 17; then h = 31 h + v for each v: count() 0 to 9; "
        + "of each GUEST guest() 0 to 7; of each kept HOTEL how many DEEDS (-1: missing); "
        + "of each ROW its size (-1: missing) and places, of each TEXT likewise.";

    private static long digestOf(int[]... values) {
        long h = 17;
        for (int[] part : values) {
            for (int v : part) {
                h = 31 * h + v;
            }
        }
        return h;
    }

    private static int[] of(int... values) {
        return values;
    }

    private static int[] missing(int many) {
        int[] values = new int[many];
        Arrays.fill(values, -1);
        return values;
    }

    /** "n2g000o0000", as bytes behind its size. */
    private static int[] leastText() {
        return of(11, 110, 50, 103, 48, 48, 48, 111, 48, 48, 48, 48);
    }

    private static void digestOfCounts(Sentences s) {
        s.of(47, DIGEST, "h = 17; then h = 31 h + v for each v: count() 0 to 9", c -> {
            SecondRoom x = new SecondRoom();
            c.due("digest() of a new object", x.digest(), digestOf(new int[10], missing(13)));
            x.row(0, 0);
            x.text(0, 0);
            c.due("digest(), one ROW, one TEXT", x.digest(),
                digestOf(of(0, 0, 0, 0, 0, 0, 0, 1, 1, 0), missing(3), of(0), missing(5), of(0), missing(3)));
        });
        s.of(47, DIGEST, "of each kept HOTEL how many DEEDS (-1: missing)", c -> {
            SecondRoom x = Checks.hotelOf("n2g000o0000");
            x.keep(1);
            x.use(0);
            x.keep(2);
            x.use(0);
            c.due("digest(), -1, 0, 1 DEEDS kept", x.digest(), digestOf(of(1, 2, 1, 2, 0, 0, 0, 0, 1, 2),
                of(0, 0, 0, 1, 0, 0, 2, 0), of(-1, 0, 1), missing(6), leastText(), missing(3)));
            Checks.use(x, 0, 58);
            x.keep(0);
            x.keep(2);
            x.undo(0);
            c.due("digest(), 60, 0, 60 DEEDS kept", x.digest(), digestOf(of(1, 2, 1, 0, 0, 0, 0, 0, 1, 3),
                of(0, 0, 0, 1, 0, 0, 0, 0), of(60, 0, 60), missing(6), leastText(), missing(3)));
        });
    }

    private static void digestOfGuests(Sentences s) {
        s.of(47, DIGEST, "of each GUEST guest() 0 to 7", c -> {
            SecondRoom x = Checks.hotelOf("n2g000l111o0000");
            x.use(0);
            x.change(1);
            x.lock(1, 1);
            x.use(1);
            x.use(1);
            int[] text = {15, 110, 50, 103, 48, 48, 48, 108, 49, 49, 49, 111, 48, 48, 48, 48};
            c.due("digest() of two GUESTS", x.digest(), digestOf(of(2, 2, 1, 5, 2, 2, 1, 0, 1, 0),
                of(0, 0, 0, 1, 0, 0, 1, 0), of(4, 1, 3, 0, 1, 1, 0, 2), missing(9), text, missing(3)));
        });
    }

    private static void digestOfPapers(Sentences s) {
        s.of(47, DIGEST, "of each ROW its size (-1: missing) and places", c -> {
            SecondRoom x = Checks.withRow(5, 7, -8);
            x.row(0, 0);
            c.due("digest() of ROWS 0, 5", x.digest(),
                digestOf(of(0, 0, 0, 0, 0, 0, 0, 2, 0, 0), missing(3), of(0), missing(4), of(2, 7, -8), missing(4)));
            x.row(5, 1);
            c.due("digest(), places that are no more", x.digest(),
                digestOf(of(0, 0, 0, 0, 0, 0, 0, 2, 0, 0), missing(3), of(0), missing(4), of(1, 0), missing(4)));
            x.tear(5);
            x.tear(0);
            c.due("digest(), torn", x.digest(), digestOf(new int[10], missing(13)));
        });
        s.of(47, DIGEST, "of each TEXT likewise.", c -> {
            SecondRoom x = new SecondRoom();
            x.text(0, 0);
            x.text(3, 3);
            x.put(3, 0, 127);
            x.put(3, 1, 128);
            c.due("digest() of TEXTS 0, 3", x.digest(), digestOf(of(0, 0, 0, 0, 0, 0, 0, 0, 2, 0), missing(9), of(0),
                missing(2), of(3, 127, -128, 32)));
        });
    }

    private static void digestWraps(Sentences s) {
        s.of(47, DIGEST, "h = 17; then h = 31 h + v for each v", c -> {
            SecondRoom x = new SecondRoom();
            int[] most = new int[40];
            int[] least = new int[40];
            Arrays.fill(most, Integer.MAX_VALUE);
            Arrays.fill(least, Integer.MIN_VALUE);
            Checks.fill(x, 0, most);
            Checks.fill(x, 1, least);
            BigInteger h = BigInteger.valueOf(17);
            int[][] all = {of(0, 0, 0, 0, 0, 0, 0, 2, 0, 0), missing(3), of(40), most, of(40), least, missing(8)};
            for (int[] part : all) {
                for (int v : part) {
                    h = h.multiply(BigInteger.valueOf(31)).add(BigInteger.valueOf(v));
                }
            }
            c.due("digest(), beyond a long many times", x.digest(), h.longValue());
        });
    }
}
