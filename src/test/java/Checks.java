/** What the tests share: compares answers with those that are due, and writes TEXTS. */
final class Checks {
    private final String test;
    private int wrong = 0;
    private int made = 0;

    Checks(String test) {
        this.test = test;
    }

    void due(String call, long got, long want) {
        made++;
        if (got != want) {
            wrong++;
            System.out.println(test + ": " + call + " answered " + got + ", due is " + want);
        }
    }

    /** A call, and what asked() tells behind it. */
    void due(String call, SecondRoom x, long got, long want, long asked) {
        due(call, got, want);
        due(call + ", asked()", x.asked(), asked);
    }

    interface Call {
        long answer();
    }

    /** A refused call: what it answers, and that it changed nothing. */
    void refused(String call, SecondRoom x, Call c, long want) {
        long digest = x.digest();
        long asked = x.asked();
        long upper = x.upper();
        long lower = x.lower();
        int finding = x.finding();
        due(call, c.answer(), want);
        due(call + " then digest()", x.digest(), digest);
        due(call + " then asked()", x.asked(), asked);
        due(call + " then upper()", x.upper(), upper);
        due(call + " then lower()", x.lower(), lower);
        due(call + " then finding()", x.finding(), finding);
    }

    /** A call refused with a FINDING: which, that it is counted, and that it changed nothing else. */
    void found(String call, SecondRoom x, Call c, int finding) {
        long digest = x.digest();
        long asked = x.asked();
        int before = x.findings(finding);
        due(call, c.answer(), SecondRoom.FINDING);
        due(call + " then finding()", x.finding(), finding);
        due(call + " then findings(" + finding + ")", x.findings(finding), before + 1);
        due(call + " then digest()", x.digest(), digest);
        due(call + " then asked()", x.asked(), asked);
    }

    /** DEEDS, who is IN ROOM 1, LOCKED doors, HOURS of both ROOMS of GUEST 0, 1, .. as far as told. */
    void stateIs(String when, SecondRoom x, int deeds, int inSecond, int locked, int... hours) {
        due(when + ": count(3)", x.count(3), deeds);
        due(when + ": count(4)", x.count(4), inSecond);
        due(when + ": count(5)", x.count(5), locked);
        for (int i = 0; i < hours.length; i++) {
            due(when + ": HOURS " + i, x, x.guest(i / 2, 6 + i % 2), 1, hours[i]);
        }
    }

    static void write(SecondRoom x, int t, String text) {
        x.text(t, text.length());
        for (int i = 0; i < text.length(); i++) {
            if (text.charAt(i) != ' ') {
                x.put(t, i, text.charAt(i));
            }
        }
    }

    static SecondRoom hotelOf(String text) {
        SecondRoom x = new SecondRoom();
        write(x, 0, text);
        int guests = x.hotel(0);
        if (guests < 1) {
            throw new IllegalStateException("hotel of \"" + text + "\" answered " + guests);
        }
        return x;
    }

    void end() {
        System.out.println(test + ": " + made + " checks, " + wrong + " wrong");
        if (wrong != 0) {
            System.exit(1);
        }
    }
}
