/**
 * A hotel that lets each GUEST two ROOMS: its own, and one for whom it might have been.
 *
 * Rows are made in constructors and used again by all calls; but for the first keep() in a place no call makes
 * an object, since a run's objects are never given back.
 */
public final class SecondRoom {
    public static final int BAD = -1, FULL = -2, FINDING = -3, STATE = -4, SPENT = -6, NONE = -9;

    private static final int NOTHING = 1, BEYOND = 2, UNLIKE = 3, NOUGHT = 4, SIZE = 5;
    private static final int LAST_FINDING = 5;

    private static final int ROWS = 6, ROW_SIZE = 40, TEXTS = 4, TEXT_SIZE = 60;
    private static final int MOST_GUESTS = 5, MOST_THINGS = 8, LEAST_TURNS = 2, MOST_TURNS = 6;
    private static final int MOST_DEEDS = 60, KEEPS = 3, MOST_LOTS = 30;
    private static final int LAWS = 3, GUEST_TELLS = 8, COUNTS = 10;

    private static final int PLAIN = 0, SOLDIER = 1, CLERK = 2, PRIEST = 3, COLONEL = 4, CURATE = 5;
    /** The letter of each KIND, and the KIND that it is one of too (a plain GUEST is of no other). */
    private static final int[] KIND_LETTERS = {103, 115, 99, 112, 108, 117};
    private static final int[] KIND_ABOVE = {-1, PLAIN, PLAIN, PLAIN, SOLDIER, PRIEST};

    private static final int BLANK = 32, FIGURE_NOUGHT = 48, TURNS_LETTER = 110, THING_LETTER = 111;

    private static final int CHANGES = 0, LOCKS_OR_OPENS = 1, USES = 2;

    private static final long LOT_FACTOR = 48271L, LOT_MODULUS = 2147483647L;

    private final Shelf rows = new Shelf(ROWS, ROW_SIZE);
    private final Shelf texts = new Shelf(TEXTS, TEXT_SIZE);
    private final Reader reader = new Reader(texts);
    private final House house = new House();
    /** What a TEXT is read into that may have a FAULT, so that the house stays as it is. */
    private final House draft = new House();
    private final Night night = new Night();
    /** Made when first kept in, since most hotels are never kept; used again when another HOTEL has come. */
    private final Night[] kept = new Night[KEEPS];

    /** Room for looks() and marks(): what tells two of at most ten LIVES apart, for each pair. */
    private final int[] differences = new int[MOST_GUESTS * (2 * MOST_GUESTS - 1)];
    private int differenceCount = 0;
    /** Room for marks(): both LIVES of each GUEST. */
    private final int[] allLives = new int[2 * MOST_GUESTS];
    /** Room for ring(): for each set of GUESTS where a walk through it can end. */
    private final int[] walkEnds = new int[1 << MOST_GUESTS];

    private int toldNumber = 0;
    private long toldUpper = 0;
    private long toldLower = 1;
    private int lastFinding = 0;
    private final int[] findingCounts = new int[LAST_FINDING + 1];

    public SecondRoom() {
    }

    // ---- 1 rows, texts, hotels

    public int row(int r, int n) {
        return makePaper(rows, r, n, 0);
    }

    public int lay(int r, int i, int v) {
        int refusal = refusalOfPlace(rows, r, i);
        if (refusal != 0) {
            return refusal;
        }
        int before = rows.placeOf(r, i);
        rows.setPlace(r, i, v);
        return tell(1, before);
    }

    public int at(int r, int i) {
        int refusal = refusalOfPlace(rows, r, i);
        return refusal != 0 ? refusal : tell(1, rows.placeOf(r, i));
    }

    public int tear(int r) {
        int refusal = refusalOfPaper(rows, r);
        if (refusal != 0) {
            return refusal;
        }
        rows.remove(r);
        return 1;
    }

    public int copy(int r, int i, int to, int j, int n) {
        if (!rows.isNumber(r) || !rows.isNumber(to)) {
            return BAD;
        }
        if (n < 0) {
            return found(SIZE);
        }
        if (rows.isMissing(r) || rows.isMissing(to)) {
            return found(NOTHING);
        }
        if (!rows.arePlaces(r, i, n) || !rows.arePlaces(to, j, n)) {
            return found(BEYOND);
        }
        rows.copyPlaces(r, i, to, j, n);
        return 1;
    }

    public int mean(int r) {
        int refusal = refusalOfPaper(rows, r);
        if (refusal != 0) {
            return refusal;
        }
        int size = rows.sizeOf(r);
        if (size < 1) {
            return found(NOUGHT);
        }
        return tell(1, (int) (rows.sumOf(r) / size));
    }

    public int text(int t, int n) {
        return makePaper(texts, t, n, BLANK);
    }

    public int put(int t, int i, int v) {
        int refusal = refusalOfPlace(texts, t, i);
        if (refusal != 0) {
            return refusal;
        }
        int before = texts.placeOf(t, i);
        texts.setPlace(t, i, (byte) v);
        return 1000 + before;
    }

    public int fault(int t) {
        int refusal = refusalOfPaper(texts, t);
        return refusal != 0 ? refusal : reader.read(t, draft);
    }

    public int hotel(int t) {
        int refusal = refusalOfPaper(texts, t);
        if (refusal != 0) {
            return refusal;
        }
        if (reader.read(t, draft) != NONE) {
            return STATE;
        }
        house.takeOver(draft);
        night.begin(house);
        forgetKept();
        return house.guests;
    }

    public int guest(int g, int what) {
        if (!isGuest(g) || what < 0 || what >= GUEST_TELLS) {
            return BAD;
        }
        return tell(1, factOf(g, what));
    }

    public int mark(int g, int kind) {
        if (!isGuest(g) || kind <= PLAIN || kind > CURATE) {
            return BAD;
        }
        if (!house.isOfKind(g, kind)) {
            return found(UNLIKE);
        }
        switch (kind) {
            case SOLDIER:
                return Integer.bitCount(house.life[g] ^ secondLife(g));
            case CLERK:
                return Integer.bitCount(house.life[g] >> (night.turnOf[g] + 1));
            case PRIEST:
                return night.lockedOf(g);
            case COLONEL:
                return house.soldiers() - 1;
            default:
                return Integer.bitCount(thingsIn(g, 0) & thingsIn(g, 1));
        }
    }

    public int turn(int g, int k) {
        if (!isGuest(g) || k < 0 || k >= house.turns) {
            return BAD;
        }
        if (night.deeds > 0) {
            return STATE;
        }
        int before = night.turnOf[g];
        night.turnOf[g] = k;
        return before;
    }

    // ---- 2 deeds

    public int change(int g) {
        if (!isGuest(g)) {
            return BAD;
        }
        if (night.lockedOf(g) == 1) {
            return STATE;
        }
        if (night.deeds >= MOST_DEEDS) {
            return FULL;
        }
        night.act(CHANGES, g);
        return night.roomOf(g);
    }

    public int lock(int g, int is) {
        if (!isGuest(g) || is < 0 || is > 1) {
            return BAD;
        }
        if (night.lockedOf(g) == is) {
            return STATE;
        }
        if (night.deeds >= MOST_DEEDS) {
            return FULL;
        }
        night.act(LOCKS_OR_OPENS, g);
        return Integer.bitCount(night.locked);
    }

    public int use(int g) {
        if (!isGuest(g)) {
            return BAD;
        }
        if (night.deeds >= MOST_DEEDS) {
            return FULL;
        }
        night.act(USES, g);
        return night.hoursOf(g, night.roomOf(g));
    }

    public int undo(int n) {
        if (n < 0 || n > night.deeds) {
            return BAD;
        }
        return night.takeBackFrom(n);
    }

    public int keep(int k) {
        if (k < 0 || k >= KEEPS) {
            return BAD;
        }
        if (house.guests == 0) {
            return STATE;
        }
        if (kept[k] == null) {
            kept[k] = new Night();
        }
        kept[k].takeOver(night);
        return night.deeds;
    }

    public int on(int k) {
        if (k < 0 || k >= KEEPS) {
            return BAD;
        }
        Night before = kept[k];
        if (before == null || before.isForgotten()) {
            return found(NOTHING);
        }
        night.takeOver(before);
        return night.deeds;
    }

    // ---- 3 lives, things

    public int things(int g, int room) {
        if (!isGuest(g) || room < 0 || room > 1) {
            return BAD;
        }
        return thingsIn(g, room);
    }

    public int both(int g) {
        if (!isGuest(g)) {
            return BAD;
        }
        int own = thingsIn(g, 0);
        int seconds = thingsIn(g, 1);
        return tell(own & seconds, own ^ seconds);
    }

    public int apart(int g) {
        if (!isGuest(g)) {
            return BAD;
        }
        int unlike = house.life[g] ^ secondLife(g);
        return tell(Integer.bitCount(unlike), firstBit(unlike));
    }

    public int has(int life) {
        if (house.guests == 0) {
            return STATE;
        }
        if (life < 0 || life >= house.lifeCount()) {
            return BAD;
        }
        return house.thingsOfLife(life);
    }

    // ---- 4 the turn told

    public int fits(int g, int set) {
        if (!isGuest(g) || !isThingSet(set)) {
            return BAD;
        }
        int fitting = 0;
        for (int k = 0; k < house.turns; k++) {
            if (thingsByTurn(g, k) == set) {
                fitting |= 1 << k;
            }
        }
        return fitting;
    }

    public int looks(int g) {
        if (!isGuest(g)) {
            return BAD;
        }
        differenceCount = 0;
        for (int k = 1; k < house.turns; k++) {
            for (int j = 0; j < k; j++) {
                int unlike = thingsByTurn(g, k) ^ thingsByTurn(g, j);
                if (unlike != 0) {
                    addDifference(unlike);
                }
            }
        }
        int fewest = fewestTellingApart();
        return tell(Integer.bitCount(fewest), fewest);
    }

    public int drawer(int g) {
        if (!isGuest(g)) {
            return BAD;
        }
        int best = 0;
        int leftByBest = house.turns + 1;
        for (int o = 0; o < house.things; o++) {
            int with = turnsWith(g, o);
            int left = Math.max(with, house.turns - with);
            if (left < leftByBest) {
                best = o;
                leftByBest = left;
            }
        }
        return tell(best, leftByBest);
    }

    public int lives(int set) {
        if (house.guests == 0) {
            return STATE;
        }
        if (!isThingSet(set)) {
            return BAD;
        }
        int having = 0;
        int first = NONE;
        for (int life = 0; life < house.lifeCount(); life++) {
            if (house.thingsOfLife(life) == set) {
                first = having == 0 ? life : first;
                having++;
            }
        }
        return tell(having, first);
    }

    public int nearest(int g, int thing) {
        if (!isGuest(g) || !isThing(thing)) {
            return BAD;
        }
        int near = NONE;
        int fewest = house.turns + 1;
        for (int life = 0; life < house.lifeCount(); life++) {
            int far = Integer.bitCount(life ^ house.life[g]);
            if (far < fewest && house.lifeHas(life, thing)) {
                near = life;
                fewest = far;
            }
        }
        return near == NONE ? NONE : tell(fewest, near);
    }

    // ---- 5 whose second

    public int twins(int g) {
        if (!isGuest(g)) {
            return BAD;
        }
        int alike = 0;
        for (int other = 0; other < house.guests; other++) {
            if (other != g && isSecondOf(other, g)) {
                alike |= 1 << other;
            }
        }
        return alike;
    }

    public int pairs() {
        int there = 0;
        int first = NONE;
        for (int g = 0; g < house.guests; g++) {
            for (int other = g + 1; other < house.guests; other++) {
                if (isSecondOf(other, g) && isSecondOf(g, other)) {
                    first = there == 0 ? 6 * g + other : first;
                    there++;
                }
            }
        }
        return tell(there, first);
    }

    public int ring() {
        int best = 0;
        int fewest = MOST_GUESTS + 1;
        for (int set = 1; set < 1 << house.guests; set++) {
            walkEnds[set] = endsOfWalk(set);
            int size = Integer.bitCount(set);
            if (size > 1 && size < fewest && leadsOn(walkEnds[set], firstBit(set))) {
                best = set;
                fewest = size;
            }
        }
        return best == 0 ? NONE : tell(fewest, best);
    }

    public int who(int g, int set) {
        if (!isGuest(g) || !isThingSet(set)) {
            return BAD;
        }
        int own = (thingsIn(g, 0) & set) == set ? 1 : 0;
        int seconds = (thingsIn(g, 1) & set) == set ? 2 : 0;
        return own + seconds;
    }

    public int marks() {
        for (int g = 0; g < house.guests; g++) {
            allLives[2 * g] = house.life[g];
            allLives[2 * g + 1] = secondLife(g);
        }
        differenceCount = 0;
        for (int i = 1; i < 2 * house.guests; i++) {
            for (int j = 0; j < i; j++) {
                if (allLives[i] != allLives[j]) {
                    addDifference(house.thingsOfLife(allLives[i]) ^ house.thingsOfLife(allLives[j]));
                }
            }
        }
        int fewest = fewestTellingApart();
        return fewest == NONE ? NONE : tell(Integer.bitCount(fewest), fewest);
    }

    // ---- 6 bills

    public int bill(int g, int law) {
        if (!isGuest(g) || !isLaw(law)) {
            return BAD;
        }
        return billFor(g, law, night.hoursOf(g, 0), night.hoursOf(g, 1));
    }

    public int pays(int g) {
        if (!isGuest(g)) {
            return BAD;
        }
        int own = night.hoursOf(g, 0);
        int seconds = night.hoursOf(g, 1);
        int paying = 0;
        for (int law = 0; law < LAWS; law++) {
            if (billFor(g, law, seconds, own) < billFor(g, law, own, seconds)) {
                paying |= 1 << law;
            }
        }
        return paying;
    }

    public int cheapest(int g, int law) {
        if (!isGuest(g) || !isLaw(law)) {
            return BAD;
        }
        int all = night.hoursOf(g, 0) + night.hoursOf(g, 1);
        int best = 0;
        int least = billFor(g, law, all, 0);
        for (int seconds = 1; seconds <= all; seconds++) {
            int price = billFor(g, law, all - seconds, seconds);
            if (price < least) {
                best = seconds;
                least = price;
            }
        }
        return tell(best, least);
    }

    // ---- 7 chances, lots

    public int spread(int g) {
        if (!isGuest(g)) {
            return BAD;
        }
        int sum = 0;
        for (int k = 0; k < house.turns; k++) {
            sum += Integer.bitCount(house.life[g] ^ house.secondLifeAt(g, k));
        }
        tellShare(sum, house.turns);
        return 1;
    }

    public int odds(int g, int thing) {
        if (!isGuest(g) || !isThing(thing)) {
            return BAD;
        }
        tellShare(turnsWith(g, thing), house.turns);
        return 1;
    }

    public int lots(int n, int seed) {
        if (n < 1 || n > MOST_LOTS || seed < 1 || seed >= LOT_MODULUS) {
            return BAD;
        }
        int guests = house.guests;
        if (guests < 1) {
            return STATE;
        }
        if (night.deeds + n > MOST_DEEDS) {
            return FULL;
        }
        long number = seed;
        for (int i = 0; i < n; i++) {
            number = LOT_FACTOR * number % LOT_MODULUS;
            actByLot((int) (number % guests), (int) (number / 16 % 4));
        }
        return Integer.bitCount(night.inSecond);
    }

    // ---- 8 what is told

    public int asked() {
        return toldNumber;
    }

    public long upper() {
        return toldUpper;
    }

    public long lower() {
        return toldLower;
    }

    public int count(int what) {
        switch (what) {
            case 0:
                return house.guests;
            case 1:
                return house.turns;
            case 2:
                return house.things;
            case 3:
                return night.deeds;
            case 4:
                return night.inSecond;
            case 5:
                return night.locked;
            case 6:
                return house.soldiers();
            case 7:
                return rows.thereCount();
            case 8:
                return texts.thereCount();
            case 9:
                return keptCount();
            default:
                return BAD;
        }
    }

    public int finding() {
        return lastFinding;
    }

    public int findings(int f) {
        return f < 1 || f > LAST_FINDING ? BAD : findingCounts[f];
    }

    public long digest() {
        long h = 17;
        for (int what = 0; what < COUNTS; what++) {
            h = 31 * h + count(what);
        }
        for (int g = 0; g < house.guests; g++) {
            for (int what = 0; what < GUEST_TELLS; what++) {
                h = 31 * h + factOf(g, what);
            }
        }
        for (int k = 0; k < KEEPS; k++) {
            h = 31 * h + keptDeeds(k);
        }
        return texts.digestFrom(rows.digestFrom(h));
    }

    // ---- what the calls share

    private int found(int f) {
        lastFinding = f;
        findingCounts[f]++;
        return FINDING;
    }

    private int makePaper(Shelf shelf, int p, int n, int v) {
        if (!shelf.isNumber(p) || n > shelf.width) {
            return BAD;
        }
        if (n < 0) {
            return found(SIZE);
        }
        shelf.make(p, n, v);
        return n;
    }

    /** What refuses a paper; 0: it is there. */
    private int refusalOfPaper(Shelf shelf, int p) {
        if (!shelf.isNumber(p)) {
            return BAD;
        }
        return shelf.isMissing(p) ? found(NOTHING) : 0;
    }

    /** What refuses a place of a paper; 0: there is such a place. */
    private int refusalOfPlace(Shelf shelf, int p, int i) {
        int refusal = refusalOfPaper(shelf, p);
        if (refusal != 0) {
            return refusal;
        }
        return shelf.isPlace(p, i) ? 0 : found(BEYOND);
    }

    private int tell(int answer, int number) {
        toldNumber = number;
        return answer;
    }

    private void tellShare(int up, int down) {
        int measure = Math.max(1, commonMeasure(up, down));
        toldUpper = up / measure;
        toldLower = down / measure;
    }

    /** The greatest number that measures both; each step lessens b, which begins with at most MOST_TURNS. */
    private static int commonMeasure(int up, int down) {
        int a = up;
        int b = down;
        for (int i = 0; i <= MOST_TURNS && b > 0; i++) {
            int rest = a % b;
            a = b;
            b = rest;
        }
        return a;
    }

    private static int firstBit(int bits) {
        for (int i = 0; i < 32; i++) {
            if ((bits >> i & 1) == 1) {
                return i;
            }
        }
        return NONE;
    }

    private boolean isGuest(int g) {
        return g >= 0 && g < house.guests;
    }

    private boolean isThing(int thing) {
        return thing >= 0 && thing < house.things;
    }

    private boolean isThingSet(int set) {
        return set >= 0 && set < 1 << house.things;
    }

    private static boolean isLaw(int law) {
        return law >= 0 && law < LAWS;
    }

    private int factOf(int g, int what) {
        switch (what) {
            case 0:
                return house.kind[g];
            case 1:
                return night.turnOf[g];
            case 2:
                return house.life[g];
            case 3:
                return secondLife(g);
            case 4:
                return night.roomOf(g);
            case 5:
                return night.lockedOf(g);
            default:
                return night.hoursOf(g, what - 6);
        }
    }

    private int secondLife(int g) {
        return house.secondLifeAt(g, night.turnOf[g]);
    }

    /** Whether a GUEST's LIFE is just that of another one's SECOND. */
    private boolean isSecondOf(int g, int other) {
        return house.life[g] == secondLife(other);
    }

    private int thingsIn(int g, int room) {
        return house.thingsOfLife(room == 0 ? house.life[g] : secondLife(g));
    }

    /** THINGS that would be in ROOM 1, if the GUEST's TURN were k. */
    private int thingsByTurn(int g, int k) {
        return house.thingsOfLife(house.secondLifeAt(g, k));
    }

    /** By how many TURNS a THING would be in ROOM 1. */
    private int turnsWith(int g, int thing) {
        int with = 0;
        for (int k = 0; k < house.turns; k++) {
            if (house.lifeHas(house.secondLifeAt(g, k), thing)) {
                with++;
            }
        }
        return with;
    }

    private void addDifference(int unlike) {
        if (differenceCount < differences.length) {
            differences[differenceCount] = unlike;
            differenceCount++;
        }
    }

    /** The fewest THINGS (the least set of as few) of which each difference has one; NONE: there are none such. */
    private int fewestTellingApart() {
        int best = NONE;
        int fewest = MOST_THINGS + 1;
        for (int set = 0; set < 1 << house.things; set++) {
            if (Integer.bitCount(set) < fewest && tellsApart(set)) {
                best = set;
                fewest = Integer.bitCount(set);
            }
        }
        return best;
    }

    private boolean tellsApart(int set) {
        for (int i = 0; i < differenceCount && i < differences.length; i++) {
            if ((differences[i] & set) == 0) {
                return false;
            }
        }
        return true;
    }

    /**
     * The GUESTS (bits) with whom a walk can end that goes from each to one whose LIFE is its SECOND's,
     * begins with the set's first GUEST and meets all of the set once. Lesser sets' ends must stand already.
     */
    private int endsOfWalk(int set) {
        int first = firstBit(set);
        if (Integer.bitCount(set) == 1) {
            return set;
        }
        int ends = 0;
        for (int g = first + 1; g < house.guests; g++) {
            if ((set >> g & 1) == 1 && leadsOn(walkEnds[set ^ 1 << g], g)) {
                ends |= 1 << g;
            }
        }
        return ends;
    }

    /** Whether of one of some GUESTS (bits) the SECOND's LIFE is that of a GUEST. */
    private boolean leadsOn(int from, int g) {
        for (int f = 0; f < house.guests; f++) {
            if ((from >> f & 1) == 1 && isSecondOf(g, f)) {
                return true;
            }
        }
        return false;
    }

    private int billFor(int g, int law, int own, int seconds) {
        if (law == 0) {
            return 2 * own + 3 * seconds;
        }
        if (law == 1) {
            int alone = thingsIn(g, 1) & ~thingsIn(g, 0);
            return own + seconds + (seconds > 0 ? 2 * Integer.bitCount(alone) : 0);
        }
        int more = Math.max(own, seconds);
        return more * more;
    }

    private void actByLot(int g, int lot) {
        if (lot == 1 || lot == 0 && night.lockedOf(g) == 1) {
            night.act(LOCKS_OR_OPENS, g);
        } else if (lot == 0) {
            night.act(CHANGES, g);
        } else {
            night.act(USES, g);
        }
    }

    private void forgetKept() {
        for (int k = 0; k < KEEPS; k++) {
            if (kept[k] != null) {
                kept[k].forget();
            }
        }
    }

    /** How many DEEDS are kept in a place; -1: nothing is kept there. */
    private int keptDeeds(int k) {
        return kept[k] == null ? -1 : kept[k].deeds;
    }

    private int keptCount() {
        int there = 0;
        for (int k = 0; k < KEEPS; k++) {
            if (keptDeeds(k) >= 0) {
                there++;
            }
        }
        return there;
    }

    /** ROWS or TEXTS: papers of up to a width of places each, or missing. */
    private static final class Shelf {
        final int width;
        /** The size of each paper; -1: it is missing. */
        private final int[] sizes;
        private final int[] places;

        Shelf(int papers, int width) {
            this.width = width;
            sizes = new int[papers];
            for (int p = 0; p < papers; p++) {
                sizes[p] = -1;
            }
            places = new int[papers * width];
        }

        boolean isNumber(int p) {
            return p >= 0 && p < sizes.length;
        }

        boolean isMissing(int p) {
            return sizes[p] < 0;
        }

        boolean isPlace(int p, int i) {
            return i >= 0 && i < sizes[p];
        }

        /** Whether there are n places from i on; subtracted, since i and n added may be beyond an int. */
        boolean arePlaces(int p, int i, int n) {
            return i >= 0 && i <= sizes[p] && n <= sizes[p] - i;
        }

        int sizeOf(int p) {
            return sizes[p];
        }

        int placeOf(int p, int i) {
            return places[p * width + i];
        }

        void setPlace(int p, int i, int v) {
            places[p * width + i] = v;
        }

        void make(int p, int n, int v) {
            sizes[p] = n;
            for (int i = 0; i < n; i++) {
                setPlace(p, i, v);
            }
        }

        void remove(int p) {
            sizes[p] = -1;
        }

        void copyPlaces(int p, int i, int to, int j, int n) {
            System.arraycopy(places, p * width + i, places, to * width + j, n);
        }

        long sumOf(int p) {
            long sum = 0;
            for (int i = 0; i < sizes[p]; i++) {
                sum += placeOf(p, i);
            }
            return sum;
        }

        int thereCount() {
            int there = 0;
            for (int p = 0; p < sizes.length; p++) {
                if (!isMissing(p)) {
                    there++;
                }
            }
            return there;
        }

        long digestFrom(long before) {
            long h = before;
            for (int p = 0; p < sizes.length; p++) {
                h = 31 * h + sizes[p];
                for (int i = 0; i < sizes[p]; i++) {
                    h = 31 * h + placeOf(p, i);
                }
            }
            return h;
        }
    }

    /** What a TEXT says of a HOTEL: it stays as it is until another TEXT is taken. */
    private static final class House {
        int turns = 0;
        int guests = 0;
        int things = 0;
        final int[] kind = new int[MOST_GUESTS];
        final int[] life = new int[MOST_GUESTS];
        final int[] firstTurn = new int[MOST_GUESTS];
        /** For each THING the TURNS (bits) at which 1, and at which 0 must have been chosen. */
        private final int[] ones = new int[MOST_THINGS];
        private final int[] noughts = new int[MOST_THINGS];

        void clear() {
            turns = 0;
            guests = 0;
            things = 0;
        }

        void addGuest(int itsKind, int itsLife, int itsTurn) {
            if (guests < MOST_GUESTS) {
                kind[guests] = itsKind;
                life[guests] = itsLife;
                firstTurn[guests] = itsTurn;
                guests++;
            }
        }

        void addThing(int itsOnes, int itsNoughts) {
            if (things < MOST_THINGS) {
                ones[things] = itsOnes;
                noughts[things] = itsNoughts;
                things++;
            }
        }

        void takeOver(House other) {
            clear();
            turns = other.turns;
            for (int g = 0; g < other.guests; g++) {
                addGuest(other.kind[g], other.life[g], other.firstTurn[g]);
            }
            for (int o = 0; o < other.things; o++) {
                addThing(other.ones[o], other.noughts[o]);
            }
        }

        int lifeCount() {
            return 1 << turns;
        }

        boolean isOfKind(int g, int wanted) {
            return kind[g] == wanted || KIND_ABOVE[kind[g]] == wanted;
        }

        int soldiers() {
            int there = 0;
            for (int g = 0; g < guests; g++) {
                if (isOfKind(g, SOLDIER)) {
                    there++;
                }
            }
            return there;
        }

        boolean lifeHas(int itsLife, int thing) {
            return (itsLife & ones[thing]) == ones[thing] && (itsLife & noughts[thing]) == 0;
        }

        int thingsOfLife(int itsLife) {
            int set = 0;
            for (int o = 0; o < things; o++) {
                if (lifeHas(itsLife, o)) {
                    set |= 1 << o;
                }
            }
            return set;
        }

        /** The SECOND's LIFE of a GUEST, if its TURN is k. */
        int secondLifeAt(int g, int k) {
            int own = life[g];
            int otherAtTurn = own ^ 1 << k;
            int fromTurnOn = lifeCount() - (1 << k);
            switch (kind[g]) {
                case SOLDIER:
                    return own ^ fromTurnOn;
                case COLONEL:
                    return own ^ (fromTurnOn | 1);
                case CLERK:
                    return otherAtTurn & ((2 << k) - 1);
                case PRIEST:
                    return lastAsFirst(otherAtTurn, own);
                case CURATE:
                    return lastAsFirst(otherAtTurn, own) & ~1 | own & 1;
                default:
                    return otherAtTurn;
            }
        }

        /** A LIFE, but at the last TURN what another LIFE has at TURN 0. */
        private int lastAsFirst(int itsLife, int other) {
            int last = 1 << turns - 1;
            return itsLife & ~last | ((other & 1) == 1 ? last : 0);
        }
    }

    /** Reads TEXTS into houses; stands at the place that it reads next, and stays at a FAULT's. */
    private static final class Reader {
        private final Shelf texts;
        private int paper = 0;
        private int size = 0;
        private int place = 0;

        Reader(Shelf texts) {
            this.texts = texts;
        }

        /** The place of the FAULT of a TEXT that is there, or NONE: then the house is as the TEXT tells. */
        int read(int t, House into) {
            paper = t;
            size = texts.sizeOf(t);
            place = 0;
            into.clear();
            skipBlanks();
            if (!readTurns(into)) {
                return place;
            }
            skipBlanks();
            for (int items = 0; items < size && place < size; items++) {
                if (!readItem(into)) {
                    return place;
                }
                skipBlanks();
            }
            return into.things == 0 ? size : NONE;
        }

        /** What stands here; -1 (which begins no item and is no figure): the end. */
        private int here() {
            return place < size ? texts.placeOf(paper, place) : -1;
        }

        private void skipBlanks() {
            for (int i = 0; i < size && here() == BLANK; i++) {
                place++;
            }
        }

        /** The figure that stands here, gone past; -1: none from least to most, and the reader stays. */
        private int figure(int least, int most) {
            int value = here() - FIGURE_NOUGHT;
            if (value < least || value > most) {
                return -1;
            }
            place++;
            return value;
        }

        private boolean readTurns(House into) {
            if (here() != TURNS_LETTER) {
                return false;
            }
            place++;
            int turns = figure(LEAST_TURNS, MOST_TURNS);
            if (turns < 0) {
                return false;
            }
            into.turns = turns;
            return true;
        }

        private boolean readItem(House into) {
            return here() == THING_LETTER ? readThing(into) : readGuest(into);
        }

        private boolean readGuest(House into) {
            int kind = kindByLetter(here());
            if (kind < 0 || into.things > 0 || into.guests >= MOST_GUESTS) {
                return false;
            }
            place++;
            int life = 0;
            for (int k = 0; k < into.turns; k++) {
                int choice = figure(0, 1);
                if (choice < 0) {
                    return false;
                }
                life |= choice << k;
            }
            int turn = figure(0, into.turns - 1);
            if (turn < 0) {
                return false;
            }
            into.addGuest(kind, life, turn);
            return true;
        }

        private boolean readThing(House into) {
            if (into.guests == 0 || into.things >= MOST_THINGS) {
                return false;
            }
            place++;
            int ones = 0;
            int noughts = 0;
            for (int i = 0; i < 2; i++) {
                int turn = figure(0, into.turns - 1);
                if (turn < 0) {
                    return false;
                }
                int choice = figure(0, 1);
                if (choice < 0) {
                    return false;
                }
                ones |= choice << turn;
                noughts |= 1 - choice << turn;
            }
            into.addThing(ones, noughts);
            return true;
        }

        private static int kindByLetter(int letter) {
            for (int kind = 0; kind < KIND_LETTERS.length; kind++) {
                if (KIND_LETTERS[kind] == letter) {
                    return kind;
                }
            }
            return -1;
        }
    }

    /** What can be kept of a HOTEL and gone on from: TURNS of GUESTS, where they are, HOURS, DEEDS. */
    private static final class Night {
        /** How many DEEDS there are; -1: what was kept here is forgotten. */
        int deeds = 0;
        /** GUESTS (bits) that are IN ROOM 1, whose doors are LOCKED. */
        int inSecond = 0;
        int locked = 0;
        final int[] turnOf = new int[MOST_GUESTS];
        /** HOURS of ROOM 0 and 1 of GUEST 0, of GUEST 1, and so on. */
        private final int[] hours = new int[2 * MOST_GUESTS];
        /** What was done (CHANGES, LOCKS_OR_OPENS, USES), and by whom. */
        private final int[] acts = new int[MOST_DEEDS];
        private final int[] actors = new int[MOST_DEEDS];

        boolean isForgotten() {
            return deeds < 0;
        }

        void forget() {
            deeds = -1;
        }

        void begin(House house) {
            deeds = 0;
            inSecond = 0;
            locked = 0;
            for (int g = 0; g < MOST_GUESTS; g++) {
                turnOf[g] = house.firstTurn[g];
                hours[2 * g] = 0;
                hours[2 * g + 1] = 0;
            }
        }

        void takeOver(Night other) {
            deeds = other.deeds;
            inSecond = other.inSecond;
            locked = other.locked;
            System.arraycopy(other.turnOf, 0, turnOf, 0, MOST_GUESTS);
            System.arraycopy(other.hours, 0, hours, 0, 2 * MOST_GUESTS);
            System.arraycopy(other.acts, 0, acts, 0, MOST_DEEDS);
            System.arraycopy(other.actors, 0, actors, 0, MOST_DEEDS);
        }

        int roomOf(int g) {
            return inSecond >> g & 1;
        }

        int lockedOf(int g) {
            return locked >> g & 1;
        }

        int hoursOf(int g, int room) {
            return hours[2 * g + room];
        }

        void act(int what, int g) {
            if (deeds >= 0 && deeds < MOST_DEEDS) {
                acts[deeds] = what;
                actors[deeds] = g;
                deeds++;
                carryOut(what, g, 1);
            }
        }

        /** Undoes, the last first: an HOUR then is of the ROOM in which it was USED. */
        int takeBackFrom(int n) {
            int undone = deeds - n;
            for (int d = deeds - 1; d >= n && d >= 0; d--) {
                carryOut(acts[d], actors[d], -1);
            }
            deeds = n;
            return undone;
        }

        /** Changing over, and locking or opening, undo themselves when done again. */
        private void carryOut(int what, int g, int hour) {
            if (what == CHANGES) {
                inSecond ^= 1 << g;
            } else if (what == LOCKS_OR_OPENS) {
                locked ^= 1 << g;
            } else {
                hours[2 * g + roomOf(g)] += hour;
            }
        }
    }
}
