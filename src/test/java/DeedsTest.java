/** Promises 15 to 20: change, lock, use, undo, keep, on. */
public final class DeedsTest {
    private static final int BAD = SecondRoom.BAD, STATE = SecondRoom.STATE, FULL = SecondRoom.FULL;
    private static final int NOTHING = 1;
    private static final String TEXT = "n3 g1011 s0111 o0111";
    private static final Checks c = new Checks("DeedsTest");

    private static void change() {
        SecondRoom x = Checks.hotelOf(TEXT);
        c.due("change(1)", x.change(1), 1);
        c.stateIs("change(1)", x, 1, 2, 0, 0, 0, 0, 0);
        c.due("change(0)", x.change(0), 1);
        c.due("change(1) again", x.change(1), 0);
        c.stateIs("changed thrice", x, 3, 1, 0, 0, 0, 0, 0);
        c.refused("change(2)", x, () -> x.change(2), BAD);
        c.refused("change(-1)", x, () -> x.change(-1), BAD);
        x.lock(0, 1);
        c.refused("change(0), LOCKED", x, () -> x.change(0), STATE);
        c.due("change(1), whose door is open", x.change(1), 1);
        Checks.use(x, 1, 55);
        c.due("60 DEEDS", x.count(3), 60);
        c.refused("change(1), 60 DEEDS", x, () -> x.change(1), FULL);
        c.refused("change(0), LOCKED and 60 DEEDS", x, () -> x.change(0), STATE);
        c.refused("change(2), 60 DEEDS", x, () -> x.change(2), BAD);
    }

    private static void lock() {
        SecondRoom x = Checks.hotelOf(TEXT);
        c.due("lock(1, 1)", x.lock(1, 1), 1);
        c.due("lock(0, 1)", x.lock(0, 1), 2);
        c.stateIs("both LOCKED", x, 2, 0, 3);
        c.due("lock(1, 0)", x.lock(1, 0), 1);
        c.stateIs("one opened", x, 3, 0, 1);
        c.refused("lock(0, 1), LOCKED", x, () -> x.lock(0, 1), STATE);
        c.refused("lock(1, 0), open", x, () -> x.lock(1, 0), STATE);
        c.refused("lock(0, 2)", x, () -> x.lock(0, 2), BAD);
        c.refused("lock(0, -1)", x, () -> x.lock(0, -1), BAD);
        c.refused("lock(2, 0)", x, () -> x.lock(2, 0), BAD);
        c.refused("lock(-1, 1)", x, () -> x.lock(-1, 1), BAD);
        Checks.use(x, 0, 57);
        c.refused("lock(1, 1), 60 DEEDS", x, () -> x.lock(1, 1), FULL);
        c.refused("lock(0, 1), LOCKED and 60 DEEDS", x, () -> x.lock(0, 1), STATE);
    }

    private static void use() {
        SecondRoom x = Checks.hotelOf(TEXT);
        c.due("use(0)", x.use(0), 1);
        c.due("use(0) again", x.use(0), 2);
        c.due("use(1)", x.use(1), 1);
        x.change(0);
        c.due("use(0) IN ROOM 1", x.use(0), 1);
        x.lock(0, 1);
        c.due("use(0), LOCKED", x.use(0), 2);
        c.stateIs("used", x, 7, 1, 1, 2, 2, 1, 0);
        c.refused("use(2)", x, () -> x.use(2), BAD);
        c.refused("use(-1)", x, () -> x.use(-1), BAD);
        Checks.use(x, 1, 52);
        c.due("the 60th DEED", x.use(1), 54);
        c.refused("use(1), 60 DEEDS", x, () -> x.use(1), FULL);
        c.refused("use(2), 60 DEEDS", x, () -> x.use(2), BAD);
    }

    private static void undo() {
        SecondRoom x = Checks.hotelOf(TEXT);
        c.due("undo(0) of none", x.undo(0), 0);
        x.use(0);
        x.change(0);
        x.use(0);
        x.lock(0, 1);
        x.use(1);
        x.lock(0, 0);
        x.change(0);
        x.use(0);
        c.stateIs("8 DEEDS", x, 8, 0, 0, 2, 1, 1, 0);
        c.refused("undo(9)", x, () -> x.undo(9), BAD);
        c.refused("undo(-1)", x, () -> x.undo(-1), BAD);
        c.due("undo(8)", x.undo(8), 0);
        c.due("undo(5)", x.undo(5), 3);
        c.stateIs("undo(5)", x, 5, 1, 1, 1, 1, 1, 0);
        c.due("undo(2)", x.undo(2), 3);
        c.stateIs("undo(2)", x, 2, 1, 0, 1, 0, 0, 0);
        c.due("use(0) behind undo(2)", x.use(0), 1);
        c.due("undo(0)", x.undo(0), 3);
        c.stateIs("undo(0)", x, 0, 0, 0, 0, 0, 0, 0);
        Checks.use(x, 0, 60);
        c.due("undo(59) of 60", x.undo(59), 1);
        c.due("use(0) behind it", x.use(0), 60);
        SecondRoom none = new SecondRoom();
        c.due("undo(0), no GUESTS", none.undo(0), 0);
        c.refused("undo(1), no GUESTS", none, () -> none.undo(1), BAD);
    }

    private static void keepAndOn() {
        SecondRoom x = Checks.hotelOf(TEXT);
        x.turn(0, 2);
        c.due("keep(0)", x.keep(0), 0);
        x.turn(0, 0);
        x.change(1);
        x.use(1);
        x.lock(0, 1);
        c.due("keep(2)", x.keep(2), 3);
        c.due("count(9)", x.count(9), 2);
        x.use(1);
        x.undo(1);
        c.found("on(1)", x, () -> x.on(1), NOTHING);
        c.refused("on(3)", x, () -> x.on(3), BAD);
        c.refused("on(-1)", x, () -> x.on(-1), BAD);
        c.refused("keep(3)", x, () -> x.keep(3), BAD);
        c.refused("keep(-1)", x, () -> x.keep(-1), BAD);
        c.due("on(2)", x.on(2), 3);
        c.stateIs("on(2)", x, 3, 2, 1, 0, 0, 0, 1);
        c.due("on(2): its TURN", x, x.guest(0, 1), 1, 0);
        c.due("undo(1) of what was kept", x.undo(1), 2);
        c.stateIs("undo(1) of what was kept", x, 1, 2, 0, 0, 0, 0, 0);
        c.due("on(0)", x.on(0), 0);
        c.stateIs("on(0)", x, 0, 0, 0, 0, 0, 0, 0);
        c.due("on(0): its TURN", x, x.guest(0, 1), 1, 2);
        x.use(0);
        c.due("on(2) again: what is kept stays", x.on(2), 3);
        c.stateIs("on(2) again", x, 3, 2, 1, 0, 0, 0, 1);
        c.due("keep(0) anew", x.keep(0), 3);
        c.due("count(9) as before", x.count(9), 2);
        x.undo(0);
        x.change(0);
        x.lock(1, 1);
        x.use(1);
        x.on(2);
        c.due("undo(0) of what was kept, behind other DEEDS", x.undo(0), 3);
        c.stateIs("undo(0) of what was kept", x, 0, 0, 0, 0, 0, 0, 0);
        SecondRoom none = new SecondRoom();
        c.refused("keep(0), no GUESTS", none, () -> none.keep(0), STATE);
        c.refused("keep(3), no GUESTS", none, () -> none.keep(3), BAD);
        c.found("on(0), no GUESTS", none, () -> none.on(0), NOTHING);
    }

    private static void keptGo() {
        SecondRoom x = Checks.hotelOf(TEXT);
        x.keep(0);
        x.keep(1);
        x.hotel(0);
        c.due("count(9) behind hotel(0)", x.count(9), 0);
        long forgotten = x.digest();
        SecondRoom never = Checks.hotelOf(TEXT);
        c.due("digest() is as if never kept", forgotten, never.digest());
        c.found("on(0) behind hotel(0)", x, () -> x.on(0), NOTHING);
        x.use(1);
        c.due("keep(1) once more", x.keep(1), 1);
        c.due("count(9) once more", x.count(9), 1);
        x.undo(0);
        c.due("on(1) once more", x.on(1), 1);
        c.stateIs("on(1) once more", x, 1, 0, 0, 0, 0, 1, 0);
    }

    public static void main(String[] args) {
        change();
        lock();
        use();
        undo();
        keepAndOn();
        keptGo();
        c.end();
    }
}
