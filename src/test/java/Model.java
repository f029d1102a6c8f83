import java.math.BigInteger;
import java.util.ArrayList;
import java.util.Arrays;
import java.util.HashSet;
import java.util.LinkedHashMap;
import java.util.List;
import java.util.Map;
import java.util.Set;
import java.util.regex.Matcher;
import java.util.regex.Pattern;

/**
 * The document once more, in another way than the class, to compare with: choices as booleans, DEEDS replayed
 * from the beginning, FAULTS by regular expressions, all else by trying everything in the order of the words.
 */
final class Model {
    private static final int BAD = -1, FULL = -2, STATE = -4, NONE = -9;

    /** A refusal ends a call. */
    private static final class Refused extends RuntimeException {
        final int answer;
        final int finding;

        Refused(int answer, int finding) {
            super(null, null, false, false);
            this.answer = answer;
            this.finding = finding;
        }
    }

    private record Deed(int what, int guest) { }

    private record Kept(int[] turns, List<Deed> deeds) { }

    private static class Guest {
        boolean[] life;
        int turn;

        boolean[] second(int k) {
            boolean[] s = life.clone();
            s[k] = !s[k];
            return s;
        }
    }

    private static class Soldier extends Guest {
        @Override boolean[] second(int k) {
            boolean[] s = life.clone();
            for (int i = k; i < s.length; i++) {
                s[i] = !s[i];
            }
            return s;
        }
    }

    private static final class Colonel extends Soldier {
        @Override boolean[] second(int k) {
            boolean[] s = super.second(k);
            s[0] = !life[0];
            return s;
        }
    }

    private static final class Clerk extends Guest {
        @Override boolean[] second(int k) {
            boolean[] s = super.second(k);
            Arrays.fill(s, k + 1, s.length, false);
            return s;
        }
    }

    private static class Priest extends Guest {
        @Override boolean[] second(int k) {
            boolean[] s = super.second(k);
            s[s.length - 1] = life[0];
            return s;
        }
    }

    private static final class Curate extends Priest {
        @Override boolean[] second(int k) {
            boolean[] s = super.second(k);
            s[0] = life[0];
            return s;
        }
    }

    private static final List<Class<? extends Guest>> KINDS =
        List.of(Guest.class, Soldier.class, Clerk.class, Priest.class, Colonel.class, Curate.class);

    private final int[][] rows = new int[6][];
    private final byte[][] texts = new byte[4][];
    private int turns = 0;
    private List<Guest> guests = new ArrayList<>();
    private List<int[]> things = new ArrayList<>();
    private List<Deed> deeds = new ArrayList<>();
    private Kept[] kept = new Kept[3];
    private long asked = 0;
    private long upper = 0;
    private long lower = 1;
    private int finding = 0;
    private final int[] findings = new int[6];

    /** What a call answers. */
    long call(String name, int... a) {
        try {
            return answer(name, a);
        } catch (Refused r) {
            if (r.finding > 0) {
                finding = r.finding;
                findings[r.finding]++;
            }
            return r.answer;
        }
    }

    private long answer(String name, int[] a) {
        switch (name) {
            case "row": case "lay": case "at": case "tear": case "copy": case "mean": case "text": case "put":
                return paper(name, a);
            case "fault": case "hotel": case "guest": case "mark": case "turn":
                return house(name, a);
            case "change": case "lock": case "use": case "undo": case "keep": case "on": case "lots":
                return deed(name, a);
            case "things": case "both": case "apart": case "has": case "fits": case "looks": case "drawer":
            case "lives": case "nearest":
                return told(name, a);
            case "twins": case "pairs": case "ring": case "who": case "marks":
                return whose(name, a);
            case "bill": case "pays": case "cheapest": case "spread": case "odds":
                return billed(name, a);
            case "asked": return asked;
            case "upper": return upper;
            case "lower": return lower;
            case "count": bad(a[0] < 0 || a[0] > 9); return count(a[0]);
            case "finding": return finding;
            case "findings": bad(a[0] < 1 || a[0] > 5); return findings[a[0]];
            case "digest": return digest();
            default: throw new IllegalStateException(name);
        }
    }

    // ---- refusals

    private static void bad(boolean is) {
        refuse(is, BAD);
    }

    private static void refuse(boolean is, int answer) {
        if (is) {
            throw new Refused(answer, 0);
        }
    }

    private static void find(boolean is, int finding) {
        if (is) {
            throw new Refused(-3, finding);
        }
    }

    private static boolean out(int i, int size) {
        return i < 0 || i >= size;
    }

    private long tell(long answer, long number) {
        asked = number;
        return answer;
    }

    // ---- rows, texts

    private long paper(String name, int[] a) {
        boolean ofText = name.equals("text") || name.equals("put");
        bad(out(a[0], ofText ? 4 : 6));
        switch (name) {
            case "row": case "text":
                bad(a[1] > (ofText ? 60 : 40));
                find(a[1] < 0, 5);
                if (ofText) {
                    texts[a[0]] = " ".repeat(a[1]).getBytes();
                } else {
                    rows[a[0]] = new int[a[1]];
                }
                return a[1];
            case "put":
                find(texts[a[0]] == null, 1);
                find(out(a[1], texts[a[0]].length), 2);
                int was = texts[a[0]][a[1]];
                texts[a[0]][a[1]] = (byte) a[2];
                return was + 1000;
            case "copy":
                return copy(a[0], a[1], a[2], a[3], a[4]);
            default:
                find(rows[a[0]] == null, 1);
        }
        int[] row = rows[a[0]];
        switch (name) {
            case "tear":
                rows[a[0]] = null;
                return 1;
            case "mean":
                find(row.length == 0, 4);
                BigInteger sum = BigInteger.ZERO;
                for (int v : row) {
                    sum = sum.add(BigInteger.valueOf(v));
                }
                return tell(1, sum.divide(BigInteger.valueOf(row.length)).longValueExact());
            default:
                find(out(a[1], row.length), 2);
                tell(1, row[a[1]]);
                if (name.equals("lay")) {
                    row[a[1]] = a[2];
                }
                return 1;
        }
    }

    private long copy(int r, int i, int to, int j, int n) {
        bad(out(to, 6));
        find(n < 0, 5);
        find(rows[r] == null || rows[to] == null, 1);
        find(i < 0 || j < 0 || (long) i + n > rows[r].length || (long) j + n > rows[to].length, 2);
        int[] taken = Arrays.copyOfRange(rows[r], i, i + n);
        for (int k = 0; k < n; k++) {
            rows[to][j + k] = taken[k];
        }
        return 1;
    }

    // ---- hotels

    private static final Pattern HOTEL = hotelPattern();

    private static Pattern hotelPattern() {
        StringBuilder all = new StringBuilder();
        for (int n = 2; n <= 6; n++) {
            String turn = "[0-" + (n - 1) + "]";
            all.append(n > 2 ? "|" : "").append(" *n").append(n)
                .append(" *(?:[gscplu][01]{").append(n).append("}").append(turn).append(" *){1,5}")
                .append("(?:o").append(turn).append("[01]").append(turn).append("[01] *){1,8}");
        }
        return Pattern.compile(all.toString());
    }

    /** The first place behind which no way of going on is left. */
    static int faultOf(byte[] text) {
        StringBuilder s = new StringBuilder();
        for (byte b : text) {
            s.append((char) (b & 0xFF));
        }
        for (int p = 0; p < s.length(); p++) {
            Matcher m = HOTEL.matcher(s.substring(0, p + 1));
            if (!m.matches() && !m.hitEnd()) {
                return p;
            }
        }
        return HOTEL.matcher(s).matches() ? NONE : s.length();
    }

    private long house(String name, int[] a) {
        if (name.equals("fault") || name.equals("hotel")) {
            bad(out(a[0], 4));
            find(texts[a[0]] == null, 1);
            int fault = faultOf(texts[a[0]]);
            if (name.equals("fault")) {
                return fault;
            }
            refuse(fault != NONE, STATE);
            build(new String(texts[a[0]]).replace(" ", ""));
            return guests.size();
        }
        Guest g = guestAt(a[0]);
        switch (name) {
            case "guest":
                bad(out(a[1], 8));
                return tell(1, fact(a[0], a[1]));
            case "mark":
                bad(out(a[1] - 1, 5));
                find(!KINDS.get(a[1]).isInstance(g), 3);
                return mark(a[0], a[1]);
            default:
                bad(out(a[1], turns));
                refuse(!deeds.isEmpty(), STATE);
                int was = g.turn;
                g.turn = a[1];
                return was;
        }
    }

    private void build(String text) {
        turns = text.charAt(1) - '0';
        guests = new ArrayList<>();
        things = new ArrayList<>();
        deeds = new ArrayList<>();
        kept = new Kept[3];
        int i = 2;
        while (i < text.length()) {
            if (text.charAt(i) == 'o') {
                int[] thing = new int[4];
                for (int k = 0; k < 4; k++) {
                    thing[k] = text.charAt(i + 1 + k) - '0';
                }
                things.add(thing);
                i += 5;
            } else {
                Guest g = make(text.charAt(i));
                g.life = new boolean[turns];
                for (int k = 0; k < turns; k++) {
                    g.life[k] = text.charAt(i + 1 + k) == '1';
                }
                g.turn = text.charAt(i + 1 + turns) - '0';
                guests.add(g);
                i += turns + 2;
            }
        }
    }

    private static Guest make(char letter) {
        switch (letter) {
            case 's': return new Soldier();
            case 'c': return new Clerk();
            case 'p': return new Priest();
            case 'l': return new Colonel();
            case 'u': return new Curate();
            default: return new Guest();
        }
    }

    private Guest guestAt(int g) {
        bad(out(g, guests.size()));
        return guests.get(g);
    }

    private long fact(int g, int what) {
        Guest x = guests.get(g);
        int[] state = replay()[g];
        switch (what) {
            case 0: return KINDS.indexOf(x.getClass());
            case 1: return x.turn;
            case 2: return bits(x.life);
            case 3: return bits(x.second(x.turn));
            default: return state[what - 4];
        }
    }

    private long mark(int g, int kind) {
        Guest x = guests.get(g);
        int n = 0;
        switch (kind) {
            case 1:
                return unlike(x.life, x.second(x.turn));
            case 2:
                for (int k = x.turn + 1; k < turns; k++) {
                    n += x.life[k] ? 1 : 0;
                }
                return n;
            case 3:
                return fact(g, 5);
            case 4:
                for (Guest o : guests) {
                    n += o != x && o instanceof Soldier ? 1 : 0;
                }
                return n;
            default:
                for (int o = 0; o < things.size(); o++) {
                    n += has(x.life, o) && has(x.second(x.turn), o) ? 1 : 0;
                }
                return n;
        }
    }

    // ---- deeds

    /** Of each GUEST: the ROOM, whether LOCKED, HOURS of ROOM 0, of ROOM 1. */
    private int[][] replay() {
        int[][] state = new int[guests.size()][4];
        for (Deed d : deeds) {
            int[] s = state[d.guest];
            switch (d.what) {
                case 0: s[0] = 1 - s[0]; break;
                case 1: s[1] = 1; break;
                case 2: s[1] = 0; break;
                default: s[2 + s[0]]++;
            }
        }
        return state;
    }

    private long deed(String name, int[] a) {
        switch (name) {
            case "change":
                guestAt(a[0]);
                refuse(replay()[a[0]][1] == 1, STATE);
                refuse(deeds.size() == 60, FULL);
                deeds.add(new Deed(0, a[0]));
                return replay()[a[0]][0];
            case "lock":
                guestAt(a[0]);
                bad(out(a[1], 2));
                refuse(replay()[a[0]][1] == a[1], STATE);
                refuse(deeds.size() == 60, FULL);
                deeds.add(new Deed(a[1] == 1 ? 1 : 2, a[0]));
                return Arrays.stream(replay()).filter(s -> s[1] == 1).count();
            case "use":
                guestAt(a[0]);
                refuse(deeds.size() == 60, FULL);
                deeds.add(new Deed(3, a[0]));
                return replay()[a[0]][2 + replay()[a[0]][0]];
            case "undo":
                bad(a[0] < 0 || a[0] > deeds.size());
                int undone = deeds.size() - a[0];
                deeds = new ArrayList<>(deeds.subList(0, a[0]));
                return undone;
            case "keep":
                bad(out(a[0], 3));
                refuse(guests.isEmpty(), STATE);
                kept[a[0]] = new Kept(guests.stream().mapToInt(g -> g.turn).toArray(), List.copyOf(deeds));
                return deeds.size();
            case "on":
                bad(out(a[0], 3));
                find(kept[a[0]] == null, 1);
                deeds = new ArrayList<>(kept[a[0]].deeds);
                for (int g = 0; g < guests.size(); g++) {
                    guests.get(g).turn = kept[a[0]].turns[g];
                }
                return deeds.size();
            default:
                return lots(a[0], a[1]);
        }
    }

    private long lots(int n, int seed) {
        bad(n < 1 || n > 30 || seed < 1 || seed > 2147483646);
        refuse(guests.isEmpty(), STATE);
        refuse(deeds.size() + n > 60, FULL);
        BigInteger x = BigInteger.valueOf(seed);
        for (int i = 0; i < n; i++) {
            x = x.multiply(BigInteger.valueOf(48271)).mod(BigInteger.valueOf(2147483647));
            int g = x.mod(BigInteger.valueOf(guests.size())).intValue();
            int lot = x.shiftRight(4).intValue() & 3;
            boolean locked = replay()[g][1] == 1;
            if (lot == 0) {
                deeds.add(new Deed(locked ? 2 : 0, g));
            } else if (lot == 1) {
                deeds.add(new Deed(locked ? 2 : 1, g));
            } else {
                deeds.add(new Deed(3, g));
            }
        }
        return Arrays.stream(replay()).filter(s -> s[0] == 1).count();
    }

    // ---- lives, things

    private static int bits(boolean[] life) {
        int b = 0;
        for (int k = life.length - 1; k >= 0; k--) {
            b = 2 * b + (life[k] ? 1 : 0);
        }
        return b;
    }

    private boolean[] lifeOf(int bits) {
        boolean[] life = new boolean[turns];
        for (int k = 0; k < turns; k++) {
            life[k] = (bits >> k) % 2 == 1;
        }
        return life;
    }

    private static int unlike(boolean[] a, boolean[] b) {
        int n = 0;
        for (int k = 0; k < a.length; k++) {
            n += a[k] != b[k] ? 1 : 0;
        }
        return n;
    }

    private boolean has(boolean[] life, int o) {
        int[] t = things.get(o);
        return life[t[0]] == (t[1] == 1) && life[t[2]] == (t[3] == 1);
    }

    private int thingsOf(boolean[] life) {
        int set = 0;
        for (int o = 0; o < things.size(); o++) {
            set += has(life, o) ? 1 << o : 0;
        }
        return set;
    }

    private int sets() {
        return 1 << things.size();
    }

    private long told(String name, int[] a) {
        if (name.equals("has")) {
            refuse(guests.isEmpty(), STATE);
            bad(out(a[0], 1 << turns));
            return thingsOf(lifeOf(a[0]));
        }
        if (name.equals("lives")) {
            refuse(guests.isEmpty(), STATE);
            bad(out(a[0], sets()));
            List<Integer> all = new ArrayList<>();
            for (int life = 0; life < 1 << turns; life++) {
                if (thingsOf(lifeOf(life)) == a[0]) {
                    all.add(life);
                }
            }
            return tell(all.size(), all.isEmpty() ? NONE : all.get(0));
        }
        Guest g = guestAt(a[0]);
        boolean[] second = g.second(g.turn);
        switch (name) {
            case "things":
                bad(out(a[1], 2));
                return thingsOf(a[1] == 0 ? g.life : second);
            case "both":
                return tell(thingsOf(g.life) & thingsOf(second), thingsOf(g.life) ^ thingsOf(second));
            case "apart":
                int first = NONE;
                for (int k = turns - 1; k >= 0; k--) {
                    first = g.life[k] != second[k] ? k : first;
                }
                return tell(unlike(g.life, second), first);
            case "fits":
                bad(out(a[1], sets()));
                return fits(g, a[1]);
            case "looks":
                Set<Integer> can = new HashSet<>();
                for (int k = 0; k < turns; k++) {
                    can.add(thingsOf(g.second(k)));
                }
                return fewest(new ArrayList<>(can));
            case "drawer":
                return drawer(g);
            default:
                bad(out(a[1], things.size()));
                return nearest(g, a[1]);
        }
    }

    private int fits(Guest g, int set) {
        int fit = 0;
        for (int k = 0; k < turns; k++) {
            fit += thingsOf(g.second(k)) == set ? 1 << k : 0;
        }
        return fit;
    }

    /** The fewest THINGS by which sets, all of which must be told apart, are; NONE: they can't be. */
    private long fewest(List<Integer> unlikes) {
        for (int size = 0; size <= things.size(); size++) {
            for (int by = 0; by < sets(); by++) {
                if (Integer.bitCount(by) != size) {
                    continue;
                }
                Set<Integer> seen = new HashSet<>();
                for (int u : unlikes) {
                    seen.add(u & by);
                }
                if (seen.size() == unlikes.size()) {
                    return tell(size, by);
                }
            }
        }
        return NONE;
    }

    private long drawer(Guest g) {
        for (int left = 0; left <= turns; left++) {
            for (int o = 0; o < things.size(); o++) {
                int there = 0;
                int not = 0;
                for (int k = 0; k < turns; k++) {
                    if (has(g.second(k), o)) {
                        there++;
                    } else {
                        not++;
                    }
                }
                if (there <= left && not <= left) {
                    return tell(o, left);
                }
            }
        }
        throw new IllegalStateException();
    }

    private long nearest(Guest g, int o) {
        for (int far = 0; far <= turns; far++) {
            for (int life = 0; life < 1 << turns; life++) {
                if (unlike(lifeOf(life), g.life) == far && has(lifeOf(life), o)) {
                    return tell(far, life);
                }
            }
        }
        return NONE;
    }

    // ---- whose second

    private boolean leads(int g, int to) {
        Guest x = guests.get(g);
        return Arrays.equals(x.second(x.turn), guests.get(to).life);
    }

    private long whose(String name, int[] a) {
        int n = guests.size();
        switch (name) {
            case "twins":
                guestAt(a[0]);
                int twins = 0;
                for (int o = 0; o < n; o++) {
                    twins += o != a[0] && leads(a[0], o) ? 1 << o : 0;
                }
                return twins;
            case "who":
                Guest g = guestAt(a[0]);
                bad(out(a[1], sets()));
                return ((a[1] & ~thingsOf(g.life)) == 0 ? 1 : 0) + ((a[1] & ~thingsOf(g.second(g.turn))) == 0 ? 2 : 0);
            case "pairs":
                List<Integer> all = new ArrayList<>();
                for (int i = 0; i < n; i++) {
                    for (int j = i + 1; j < n; j++) {
                        if (leads(i, j) && leads(j, i)) {
                            all.add(6 * i + j);
                        }
                    }
                }
                return tell(all.size(), all.isEmpty() ? NONE : all.get(0));
            case "ring":
                int best = 0;
                for (int set = 1; set < 1 << n; set++) {
                    int size = Integer.bitCount(set);
                    if (size > 1 && (best == 0 || size < Integer.bitCount(best)) && isRing(set, new ArrayList<>())) {
                        best = set;
                    }
                }
                return best == 0 ? NONE : tell(Integer.bitCount(best), best);
            default:
                Map<Integer, Integer> lives = new LinkedHashMap<>();
                for (Guest x : guests) {
                    lives.put(bits(x.life), thingsOf(x.life));
                    lives.put(bits(x.second(x.turn)), thingsOf(x.second(x.turn)));
                }
                return fewest(new ArrayList<>(lives.values()));
        }
    }

    /** Tries every order of a set. */
    private boolean isRing(int left, List<Integer> walk) {
        if (left == 0) {
            return leads(walk.get(walk.size() - 1), walk.get(0));
        }
        for (int g = 0; g < guests.size(); g++) {
            if ((left >> g & 1) == 1 && (walk.isEmpty() || leads(walk.get(walk.size() - 1), g))) {
                walk.add(g);
                if (isRing(left & ~(1 << g), walk)) {
                    return true;
                }
                walk.remove(walk.size() - 1);
            }
        }
        return false;
    }

    // ---- bills, chances

    private int price(Guest g, int law, int own, int seconds) {
        switch (law) {
            case 0:
                return 2 * own + 3 * seconds;
            case 1:
                int price = own + seconds;
                for (int o = 0; o < things.size() && seconds > 0; o++) {
                    price += has(g.second(g.turn), o) && !has(g.life, o) ? 2 : 0;
                }
                return price;
            default:
                return own > seconds ? own * own : seconds * seconds;
        }
    }

    private long billed(String name, int[] a) {
        Guest g = guestAt(a[0]);
        int own = replay()[a[0]][2];
        int seconds = replay()[a[0]][3];
        int sum = 0;
        switch (name) {
            case "bill":
                bad(out(a[1], 3));
                return price(g, a[1], own, seconds);
            case "pays":
                for (int law = 0; law < 3; law++) {
                    sum += price(g, law, seconds, own) < price(g, law, own, seconds) ? 1 << law : 0;
                }
                return sum;
            case "cheapest":
                bad(out(a[1], 3));
                int best = 0;
                for (int s = own + seconds; s >= 0; s--) {
                    if (s == own + seconds
                        || price(g, a[1], own + seconds - s, s) <= price(g, a[1], own + seconds - best, best)) {
                        best = s;
                    }
                }
                return tell(best, price(g, a[1], own + seconds - best, best));
            case "spread":
                for (int k = 0; k < turns; k++) {
                    sum += unlike(g.life, g.second(k));
                }
                return share(sum);
            default:
                bad(out(a[1], things.size()));
                for (int k = 0; k < turns; k++) {
                    sum += has(g.second(k), a[1]) ? 1 : 0;
                }
                return share(sum);
        }
    }

    private long share(int sum) {
        long by = BigInteger.valueOf(sum).gcd(BigInteger.valueOf(turns)).longValueExact();
        upper = sum / by;
        lower = turns / by;
        return 1;
    }

    // ---- what is told

    private long count(int what) {
        int set = 0;
        switch (what) {
            case 0: return guests.size();
            case 1: return turns;
            case 2: return things.size();
            case 3: return deeds.size();
            case 4: case 5:
                for (int g = 0; g < guests.size(); g++) {
                    set += replay()[g][what - 4] << g;
                }
                return set;
            case 6: return guests.stream().filter(g -> g instanceof Soldier).count();
            case 7: return Arrays.stream(rows).filter(r -> r != null).count();
            case 8: return Arrays.stream(texts).filter(t -> t != null).count();
            default: return Arrays.stream(kept).filter(k -> k != null).count();
        }
    }

    private long digest() {
        List<Long> all = new ArrayList<>();
        for (int what = 0; what < 10; what++) {
            all.add(count(what));
        }
        for (int g = 0; g < guests.size(); g++) {
            for (int what = 0; what < 8; what++) {
                all.add(fact(g, what));
            }
        }
        for (Kept k : kept) {
            all.add(k == null ? -1L : k.deeds.size());
        }
        for (int[] row : rows) {
            all.add(row == null ? -1L : row.length);
            for (int i = 0; row != null && i < row.length; i++) {
                all.add((long) row[i]);
            }
        }
        for (byte[] text : texts) {
            all.add(text == null ? -1L : text.length);
            for (int i = 0; text != null && i < text.length; i++) {
                all.add((long) text[i]);
            }
        }
        long h = 17;
        for (long v : all) {
            h = 31 * h + v;
        }
        return h;
    }
}
