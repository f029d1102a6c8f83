import java.util.function.IntToLongFunction;

/** What the tests share: compares answers with those that are due, and writes ROWS, TEXTS, HOTELS. */
final class Checks {
    private final String test;
    private int wrong = 0;
    private int made = 0;

    Checks(String test) {
        this.test = test;
    }

    int made() {
        return made;
    }

    int wrong() {
        return wrong;
    }

    void due(String call, long got, long want) {
        made++;
        if (got != want) {
            wrong++;
            System.out.println(test + ": " + call + " answered " + got + ", due is " + want);
        }
    }

    /** A call, and what asked() tells behind it. */
    void due(String call, SecondRoom x, long got, long want, long asked) {
        due(call, got, want);
        due(call + ", asked()", x.asked(), asked);
    }

    /** A call that tells a chance or a mean. */
    void told(String call, SecondRoom x, int answer, long upper, long lower) {
        due(call, answer, 1);
        due(call + ", upper()", x.upper(), upper);
        due(call + ", lower()", x.lower(), lower);
    }

    interface Call {
        long answer();
    }

    /** What no refused call changes. */
    private static long[] told(SecondRoom x) {
        return new long[] {x.digest(), x.asked(), x.upper(), x.lower()};
    }

    private void stillTold(String call, SecondRoom x, long[] before) {
        String[] names = {"digest()", "asked()", "upper()", "lower()"};
        long[] now = told(x);
        for (int i = 0; i < now.length; i++) {
            due(call + " then " + names[i], now[i], before[i]);
        }
    }

    private static int[] findings(SecondRoom x) {
        int[] counts = new int[6];
        for (int f = 1; f <= 5; f++) {
            counts[f] = x.findings(f);
        }
        return counts;
    }

    private void findingsAre(String call, SecondRoom x, int[] counts) {
        for (int f = 1; f <= 5; f++) {
            due(call + " then findings(" + f + ")", x.findings(f), counts[f]);
        }
    }

    /** A refused call: what it answers, and that it changed nothing. */
    void refused(String call, SecondRoom x, Call c, long want) {
        long[] before = told(x);
        int finding = x.finding();
        int[] counts = findings(x);
        due(call, c.answer(), want);
        stillTold(call, x, before);
        due(call + " then finding()", x.finding(), finding);
        findingsAre(call, x, counts);
    }

    /** A call refused with a FINDING: which, that it is counted, and that it changed nothing else. */
    void found(String call, SecondRoom x, Call c, int finding) {
        long[] before = told(x);
        int[] counts = findings(x);
        counts[finding]++;
        due(call, c.answer(), SecondRoom.FINDING);
        stillTold(call, x, before);
        due(call + " then finding()", x.finding(), finding);
        findingsAre(call, x, counts);
    }

    /** That a number is BAD next to those from least to most on either side, and as far off as can be. */
    void badOutside(String call, SecondRoom x, IntToLongFunction c, int least, int most) {
        int[] outside = {least - 1, most + 1, Integer.MIN_VALUE, Integer.MAX_VALUE};
        for (int number : outside) {
            refused(call + ", " + number + " for the dots", x, () -> c.applyAsLong(number), SecondRoom.BAD);
        }
    }

    /** DEEDS, who is IN ROOM 1, LOCKED doors, HOURS of both ROOMS of GUEST 0, 1, .. as far as told. */
    void stateIs(String when, SecondRoom x, int deeds, int inSecond, int locked, int... hours) {
        due(when + ": count(3)", x.count(3), deeds);
        due(when + ": count(4)", x.count(4), inSecond);
        due(when + ": count(5)", x.count(5), locked);
        for (int i = 0; i < hours.length; i++) {
            due(when + ": HOURS " + i, x, x.guest(i / 2, 6 + i % 2), 1, hours[i]);
        }
    }

    /** The size of a ROW, and what lies in its places. */
    void rowIs(String when, SecondRoom x, int r, int... values) {
        for (int i = 0; i < values.length; i++) {
            due(when + ": at(" + r + ", " + i + ")", x, x.at(r, i), 1, values[i]);
        }
        due(when + ": at(" + r + ", size)", x.at(r, values.length), SecondRoom.FINDING);
    }

    static void fill(SecondRoom x, int r, int... values) {
        x.row(r, values.length);
        for (int i = 0; i < values.length; i++) {
            x.lay(r, i, values[i]);
        }
    }

    static SecondRoom withRow(int r, int... values) {
        SecondRoom x = new SecondRoom();
        fill(x, r, values);
        return x;
    }

    static void write(SecondRoom x, int t, String text) {
        x.text(t, text.length());
        for (int i = 0; i < text.length(); i++) {
            if (text.charAt(i) != ' ') {
                x.put(t, i, text.charAt(i));
            }
        }
    }

    static SecondRoom hotelOf(String text) {
        SecondRoom x = new SecondRoom();
        write(x, 0, text);
        int guests = x.hotel(0);
        if (guests < 1) {
            throw new IllegalStateException("hotel of \"" + text + "\" answered " + guests);
        }
        return x;
    }

    static void use(SecondRoom x, int g, int times) {
        for (int i = 0; i < times; i++) {
            x.use(g);
        }
    }

    /** A HOTEL in which GUEST g USED ROOM 0, changed over, and USED ROOM 1 so often. */
    static SecondRoom usedBy(String text, int g, int own, int seconds) {
        SecondRoom x = hotelOf(text);
        use(x, g, own);
        x.change(g);
        use(x, g, seconds);
        return x;
    }

    void end() {
        System.out.println(test + ": " + made + " checks, " + wrong + " wrong");
        if (wrong != 0) {
            System.exit(1);
        }
    }
}
