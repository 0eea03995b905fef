/**
 * A household's wash: things of colours, runs in thought and in deed, heaps, days, the line, pink
 * read back, socks whose acts come from above, and shelves. The document's terms stand in capitals.
 * Every row is made by the constructor and used again, so that no call makes an object.
 */
public final class WithTheReds {
    public static final int BAD = -1, NOT = -2, FULL = -3, STATE = -5, VOID = -2000000000;

    private static final int NOTHING_THERE = -11, OTHER_KIND = -12, NO_PLACE = -13, SIZE_BELOW_0 = -14;
    private static final int FINE = 0;
    private static final int NONE = -1;
    private static final int THINGS_MOST = 10;
    private static final int SHELVES = 6;
    private static final int COOLEST = 3, HOTTEST = 9;
    private static final int DYE_MOST = 9, WASHED_MOST = 99, TINT_MOST = 99;
    private static final int CLOTHS_MOST = 9;
    private static final int HEAPED_MOST = 8, COSTED_MOST = 7, ORDERED_MOST = 6;
    private static final int FAULT_AHEAD = -100;

    private final Basket basket;
    private final Tape tape;
    private final Law dyeLaw;
    private final Tub tub;
    private final Heaps heaps;
    private final Plan plan;
    private final Rope rope;
    private final Deeds deeds;
    private final Changes changes;
    private final Socks socks;
    private final Shelf[] shelves;

    public WithTheReds() {
        basket = new Basket();
        tape = new Tape();
        dyeLaw = new Law();
        tub = new Tub(basket, dyeLaw);
        heaps = new Heaps(tub);
        plan = new Plan(basket);
        rope = new Rope(basket);
        deeds = new Deeds(basket);
        changes = new Changes();
        socks = new Socks();
        shelves = new Shelf[SHELVES];
        for (int i = 0; i < SHELVES; i++) {
            shelves[i] = new Shelf();
        }
    }

    // ---- things

    public int thing(int colour, int size) {
        if (!Basket.mayBe(Basket.COLOUR, colour) || !Basket.mayBe(Basket.SIZE, size)) {
            return BAD;
        }
        return basket.isFull() ? FULL : basket.add(colour, 0, size);
    }

    public int things(int shelf, int i, int n) {
        if (!isShelf(shelf) || !within(n, 1, THINGS_MOST)) {
            return BAD;
        }
        int refusal = rowRefusal(shelf, Shelf.BYTES);
        if (refusal == NOTHING_THERE) {
            return 0;
        }
        return refusal == FINE ? addFrom(shelves[shelf], i, n) : refusal;
    }

    public int mend(int number, int what, int v) {
        int slot = basket.slot(number, what);
        if (slot < 0 || !Basket.mayBe(what, v)) {
            return BAD;
        }
        int was = basket.numberAt(slot);
        if (was != v) {
            basket.write(slot, v);
            changes.add(slot, was, v);
        }
        return was;
    }

    public int of(int number, int what) {
        if (what == Basket.TINT || what == Basket.GONE) {
            return basket.isThing(number) ? basket.stateOf(number, what) : BAD;
        }
        int slot = basket.slot(number, what);
        return slot < 0 ? BAD : basket.numberAt(slot);
    }

    public int feed(int letter) {
        if (!within(letter, 0, 255)) {
            return BAD;
        }
        return tape.isFull() ? FULL : tape.add(letter);
    }

    public int law() {
        int fault = tape.read();
        if (fault == NONE) {
            dyeLaw.become(tape);
        }
        tape.clear();
        return fault == NONE ? 1 : FAULT_AHEAD - fault;
    }

    public int gives(int thing, int heat) {
        return basket.isThing(thing) && isHeat(heat) ? tub.dyeOf(thing, heat) : BAD;
    }

    // ---- a run in thought

    public int run(int set, int hc, int what) {
        if (!isSet(set) || !isHeatAndCloth(hc)) {
            return BAD;
        }
        tub.load(set, hc);
        switch (what) {
            case 0:
                return tub.loose;
            case 1:
                return tub.allTints();
            case 2:
                return tub.spoilt();
            case 3:
                return tub.goes() ? 1 : 0;
            default:
                return BAD;
        }
    }

    public int tint(int set, int hc, int thing) {
        if (!isSet(set) || !isHeatAndCloth(hc) || !isOf(set, thing)) {
            return BAD;
        }
        tub.load(set, hc);
        return tub.tintOf(thing);
    }

    public int safe(int set, int hc, int t) {
        if (!isSet(set) || !isHeatAndCloth(hc) || !within(t, 0, TINT_MOST)) {
            return BAD;
        }
        tub.load(set, hc);
        return tub.isSafe(t) ? 1 : 0;
    }

    public int together(int thing, int ht) {
        if (!basket.isThing(thing) || !isHeatAndTint(ht)) {
            return BAD;
        }
        tub.warm(ht / 100);
        int friends = 0;
        for (int other = 0; other < basket.things; other++) {
            tub.fill(1 << thing | 1 << other, 0);
            if (other != thing && tub.isSafe(ht % 100)) {
                friends |= 1 << other;
            }
        }
        return friends;
    }

    public int heat(int set, int t) {
        if (!isSet(set) || !within(t, 0, TINT_MOST)) {
            return BAD;
        }
        for (int heat = HOTTEST; heat >= COOLEST; heat--) {
            tub.warm(heat);
            tub.fill(set, 0);
            if (tub.isSafe(t)) {
                return heat;
            }
        }
        return NOT;
    }

    public int cloths(int set, int ht) {
        if (!isSet(set) || !isHeatAndTint(ht)) {
            return BAD;
        }
        tub.warm(ht / 100);
        for (int n = 0; n <= CLOTHS_MOST; n++) {
            tub.fill(set, tub.caughtBy(n));
            if (tub.isSafe(ht % 100)) {
                return n;
            }
        }
        return NOT;
    }

    public int heaps(int set, int ht, int thing) {
        if (!isSet(set) || !isHeatAndTint(ht) || !isThingOrAll(thing)) {
            return BAD;
        }
        if (Integer.bitCount(set) > HEAPED_MOST) {
            return STATE;
        }
        if (thing != NONE && !isOf(set, thing)) {
            return NOT;
        }
        tub.warm(ht / 100);
        if (!heaps.fewestRuns(set, ht % 100)) {
            return NOT;
        }
        return thing == NONE ? heaps.least : heaps.runOf(thing);
    }

    public int cost(int set, int hn, int price) {
        if (!isSet(set) || !within(price, 0, 99) || !isHeat(hn / 10) || !within(hn % 10, 1, 6)) {
            return BAD;
        }
        if (Integer.bitCount(set) > COSTED_MOST) {
            return STATE;
        }
        tub.warm(hn / 10);
        return heaps.leastTints(set, hn % 10) ? heaps.least * price : NOT;
    }

    public int alone(int thing, int heat) {
        if (!basket.isThing(thing) || !isHeat(heat)) {
            return BAD;
        }
        int dye = basket.told(thing, Basket.DYE);
        int washed = basket.told(thing, Basket.WASHED);
        // From the end: a law may give none, then some again, and "from which on" asks for ever after.
        int first = WASHED_MOST + 1;
        while (first > washed && tub.dyeIf(thing, dye, first - 1, heat) == 0) {
            first--;
        }
        return first > WASHED_MOST ? NOT : first - washed;
    }

    // ---- when, the line

    public int late(int shelf, int what) {
        int refusal = rowRefusal(shelf, Shelf.BYTES);
        if (refusal == BAD || !within(what, 0, 1)) {
            return BAD;
        }
        if (refusal != FINE) {
            return refusal;
        }
        plan.read(shelves[shelf]);
        return what == 0 ? plan.lateThings() : plan.daysLate(0, 0);
    }

    public int soon(int shelf, int who) {
        int refusal = rowRefusal(shelf, Shelf.BYTES);
        if (refusal == BAD || !Basket.mayBe(Basket.WHO, who)) {
            return BAD;
        }
        if (refusal != FINE) {
            return refusal;
        }
        plan.read(shelves[shelf]);
        return plan.dayFor(who);
    }

    public int swap(int shelf) {
        int refusal = rowRefusal(shelf, Shelf.BYTES);
        if (refusal != FINE) {
            return refusal;
        }
        plan.read(shelves[shelf]);
        return plan.bestPair();
    }

    public int line(int set, int thing, int what) {
        if (!isSet(set) || !isThingOrAll(thing) || !within(what, 0, 1)) {
            return BAD;
        }
        rope.hang(set);
        if (thing == NONE) {
            return rope.hung == Integer.bitCount(set) ? rope.allDry() : NOT;
        }
        int place = rope.placeOf(thing);
        if (place == NONE) {
            return NOT;
        }
        return what == 0 ? rope.hungAt[place] : rope.dryAt[place];
    }

    public int rain(int set, int m) {
        if (!isSet(set) || !within(m, 0, 999)) {
            return BAD;
        }
        rope.hang(set);
        return rope.hangingAt(m);
    }

    public int order(int set, int k) {
        if (!isSet(set) || k < NONE) {
            return BAD;
        }
        int size = Integer.bitCount(set);
        if (size > ORDERED_MOST) {
            return STATE;
        }
        if (k >= size || !rope.findOrder(set)) {
            return NOT;
        }
        return k == NONE ? rope.soonest : rope.best[k];
    }

    // ---- pink

    public int judge(int shelf, int set, int hc) {
        int refusal = rowRefusal(shelf, Shelf.SHORTS);
        if (refusal == BAD || !isSet(set) || !isHeatAndCloth(hc)) {
            return BAD;
        }
        if (refusal != FINE) {
            return refusal;
        }
        tub.load(set, hc);
        return firstUnlike(shelves[shelf], set);
    }

    public int which(int shelf, int set, int hc, int what) {
        int refusal = rowRefusal(shelf, Shelf.SHORTS);
        if (refusal == BAD || !isSet(set) || !isHeatAndCloth(hc) || !within(what, 0, 1)) {
            return BAD;
        }
        if (refusal != FINE) {
            return refusal;
        }
        int guests = guests(shelves[shelf], set, hc);
        if (what == 0) {
            return Integer.bitCount(guests);
        }
        return guests == 0 ? NOT : Integer.numberOfTrailingZeros(guests);
    }

    public int heatOfIt(int shelf, int set) {
        int refusal = rowRefusal(shelf, Shelf.SHORTS);
        if (refusal == BAD || !isSet(set)) {
            return BAD;
        }
        if (refusal != FINE) {
            return refusal;
        }
        for (int heat = COOLEST; heat <= HOTTEST; heat++) {
            tub.warm(heat);
            tub.fill(set, 0);
            if (firstUnlike(shelves[shelf], set) == NOT) {
                return heat;
            }
        }
        return NOT;
    }

    public int sock(int shelf, int set, int heat, int thing) {
        int refusal = rowRefusal(shelf, Shelf.SHORTS);
        if (refusal == BAD || !isSet(set) || !isHeat(heat) || !isOf(set, thing)) {
            return BAD;
        }
        if (refusal != FINE) {
            return refusal;
        }
        tub.warm(heat);
        for (int dye = 0; dye <= DYE_MOST; dye++) {
            tub.suppose(thing, dye);
            tub.fill(set, 0);
            if (firstUnlike(shelves[shelf], set) == NOT) {
                return dye;
            }
        }
        return NOT;
    }

    public int test(int set, int ht) {
        if (!isSet(set) || !isHeatAndTint(ht) || ht % 100 == 0) {
            return BAD;
        }
        int unseen = 0;
        for (int thing = 0; thing < basket.things; thing++) {
            // A white one is tinted by all that the other gives, whatever it gives itself.
            if (isOf(set, thing) && tub.dyeOf(thing, COOLEST) < ht % 100 && tub.dyeOf(thing, ht / 100) > 0) {
                unseen |= 1 << thing;
            }
        }
        return unseen;
    }

    public int drawn(int seed, int nh, int what) {
        if (!within(nh / 10, 1, 30) || !isHeat(nh % 10) || !within(what, 0, 1)) {
            return BAD;
        }
        tub.warm(nh % 10);
        int z = seed;
        int tints = 0;
        int spoiltWeeks = 0;
        for (int week = 0; week < nh / 10; week++) {
            z = tub.draw(z);
            tints += tub.allTints();
            spoiltWeeks += tub.spoilt() == 0 ? 0 : 1;
        }
        return what == 0 ? tints : spoiltWeeks;
    }

    // ---- in deed

    public int wash(int set, int hc) {
        if (!isSet(set) || !isHeatAndCloth(hc)) {
            return BAD;
        }
        tub.load(set, hc);
        return tub.goes() ? deeds.washAll(tub, hc % 10) : STATE;
    }

    public int bleach(int thing) {
        if (!basket.isThing(thing)) {
            return BAD;
        }
        int had = basket.tints[thing];
        basket.tints[thing] = 0;
        return had;
    }

    public int throwAway(int thing) {
        if (!basket.isThing(thing)) {
            return BAD;
        }
        if (basket.gone[thing]) {
            return STATE;
        }
        basket.gone[thing] = true;
        return basket.things - basket.goneOnes();
    }

    public int led(int what) {
        if (what == Deeds.THROWN_AWAY) {
            return basket.goneOnes();
        }
        return within(what, Deeds.RUNS, Deeds.CLOTHS) ? deeds.led[what] : BAD;
    }

    public int image() {
        deeds.keepImage();
        return deeds.led[Deeds.RUNS];
    }

    public int back() {
        if (!deeds.hasImage()) {
            return STATE;
        }
        deeds.layBack();
        return deeds.led[Deeds.RUNS];
    }

    public int undo() {
        if (changes.done == 0) {
            return STATE;
        }
        changes.takeBack(basket);
        return changes.done;
    }

    public int redo() {
        if (changes.undone == 0) {
            return STATE;
        }
        changes.doAgain(basket);
        return changes.undone;
    }

    // ---- acts, shelves

    public int body(int kind) {
        if (!within(kind, 0, Socks.KIND_LAST)) {
            return BAD;
        }
        return socks.isFull() ? FULL : socks.add(kind);
    }

    public int act(int body, int act, int x) {
        return socks.begin(body, act, x);
    }

    public int trace(int i) {
        return within(i, 0, socks.kept() - 1) ? socks.traced[i] : BAD;
    }

    public int keep(int shelf, int body) {
        if (!isShelf(shelf) || (body != NONE && !socks.isBody(body))) {
            return BAD;
        }
        shelves[shelf].hold(body);
        return 1;
    }

    public int row(int shelf, int sort, int n) {
        if (!isShelf(shelf) || !within(sort, Shelf.BYTES, Shelf.BOOLEANS) || n > Shelf.ELEMENTS_MOST) {
            return BAD;
        }
        if (n < 0) {
            return SIZE_BELOW_0;
        }
        shelves[shelf].holdRow(sort, n);
        return 1;
    }

    public int put(int shelf, int i, long v) {
        int refusal = placeRefusal(shelf, i);
        if (refusal != FINE) {
            return refusal;
        }
        shelves[shelf].write(i, v);
        return 1;
    }

    public long element(int shelf, int i) {
        return placeRefusal(shelf, i) == FINE ? shelves[shelf].elements[i] : Long.MIN_VALUE;
    }

    public int shift(int shelf, int i, int other, int j, int n) {
        if (!isShelf(shelf) || !isShelf(other)) {
            return BAD;
        }
        Shelf from = shelves[shelf];
        Shelf to = shelves[other];
        if (from.sort == Shelf.NOTHING || to.sort == Shelf.NOTHING) {
            return NOTHING_THERE;
        }
        if (!from.isRow() || from.sort != to.sort) {
            return OTHER_KIND;
        }
        if (!from.hasPlaces(i, n) || !to.hasPlaces(j, n)) {
            return NO_PLACE;
        }
        System.arraycopy(from.elements, i, to.elements, j, n);
        return n;
    }

    public int taken(int shelf, int k) {
        if (!isShelf(shelf) || !within(k, 0, Socks.KIND_LAST)) {
            return BAD;
        }
        Shelf held = shelves[shelf];
        if (held.sort == Shelf.NOTHING) {
            return NOTHING_THERE;
        }
        if (held.sort != Shelf.BODY || !socks.isBody(held.body)) {
            return OTHER_KIND;
        }
        int kind = socks.kinds[held.body];
        return Socks.isUnder(kind, k) ? kind : OTHER_KIND;
    }

    public int count(int what) {
        switch (what) {
            case 0:
                return basket.things;
            case 1:
                return basket.things - basket.goneOnes();
            case 2:
                return tape.length;
            case 3:
                return changes.done;
            case 4:
                return socks.bodies;
            case 5:
                return socks.ran;
            default:
                return BAD;
        }
    }

    // ---- what several calls ask

    private static boolean within(int v, int least, int most) {
        return v >= least && v <= most;
    }

    private static boolean isHeat(int heat) {
        return within(heat, COOLEST, HOTTEST);
    }

    private static boolean isHeatAndCloth(int hc) {
        return isHeat(hc / 10) && within(hc % 10, 0, 1);
    }

    private static boolean isHeatAndTint(int ht) {
        return isHeat(ht / 100);
    }

    private static boolean isOf(int set, int thing) {
        return within(thing, 0, THINGS_MOST - 1) && (set >>> thing & 1) == 1;
    }

    private static boolean isShelf(int shelf) {
        return within(shelf, 0, SHELVES - 1);
    }

    private boolean isSet(int set) {
        return set >>> basket.things == 0;
    }

    private boolean isThingOrAll(int thing) {
        return thing == NONE || basket.isThing(thing);
    }

    private int rowRefusal(int shelf, int sort) {
        if (!isShelf(shelf)) {
            return BAD;
        }
        if (shelves[shelf].sort == Shelf.NOTHING) {
            return NOTHING_THERE;
        }
        return shelves[shelf].sort == sort ? FINE : OTHER_KIND;
    }

    private int placeRefusal(int shelf, int i) {
        if (!isShelf(shelf)) {
            return BAD;
        }
        Shelf held = shelves[shelf];
        if (held.sort == Shelf.NOTHING) {
            return NOTHING_THERE;
        }
        if (!held.isRow()) {
            return OTHER_KIND;
        }
        return held.hasPlace(i) ? FINE : NO_PLACE;
    }

    private int addFrom(Shelf row, int i, int n) {
        int came = 0;
        int at = i;
        while (came < n && row.hasPlaces(at, 3) && !basket.isFull()) {
            // Bytes, so the casts lose nothing.
            int colour = (int) row.elements[at];
            int dye = (int) row.elements[at + 1];
            int size = (int) row.elements[at + 2];
            if (!Basket.mayBe(Basket.COLOUR, colour) || !Basket.mayBe(Basket.DYE, dye)
                    || !Basket.mayBe(Basket.SIZE, size)) {
                return came;
            }
            basket.add(colour, dye, size);
            came++;
            at += 3;
        }
        return came;
    }

    /** The first THING of a set whose tint in the tub is not the row's; NOT. */
    private int firstUnlike(Shelf row, int set) {
        for (int thing = 0; thing < basket.things && row.hasPlace(thing); thing++) {
            if (isOf(set, thing) && tub.tintOf(thing) != row.elements[thing]) {
                return thing;
            }
        }
        return NOT;
    }

    /** The THINGS (bits) any one of which, washed with a set, makes the set's tints the row's. */
    private int guests(Shelf row, int set, int hc) {
        tub.warm(hc / 10);
        int found = 0;
        for (int thing = 0; thing < basket.things; thing++) {
            if (!isOf(set, thing)) {
                tub.fill(set | 1 << thing, tub.caughtBy(hc % 10));
                found |= firstUnlike(row, set) == NOT ? 1 << thing : 0;
            }
        }
        return found;
    }

    /** THINGS and the household's numbers, and what deeds have made of the THINGS. */
    private static final class Basket {
        static final int COLOUR = 0, DYE = 1, WASHED = 2, BEARS = 3, SIZE = 4, DRIES = 5, WHO = 6, BY = 7;
        static final int DRUM = 8, CLOTH = 9, DAY = 10, LINE = 11;
        static final int TINT = 12, GONE = 13;
        private static final int EACH = 8;
        private static final int HOUSE = THINGS_MOST * EACH;
        private static final int[] LEAST = {0, 0, 0, 3, 1, 1, 0, 0, 1, 0, 1, 1};
        private static final int[] MOST = {3, 9, 99, 9, 9, 99, 8, 30, 60, 99, 9, 60};
        private static final int[] FIRST = {0, 0, 0, 6, 1, 12, 0, 7, 15, 6, 3, 20};

        // All numbers of mend() in one row: a change is then a slot and a number.
        private final int[] numbers = new int[HOUSE + 4];
        final int[] tints = new int[THINGS_MOST];
        final boolean[] gone = new boolean[THINGS_MOST];
        int things;

        Basket() {
            System.arraycopy(FIRST, DRUM, numbers, HOUSE, 4);
        }

        static boolean mayBe(int what, int v) {
            return within(what, COLOUR, LINE) && within(v, LEAST[what], MOST[what]);
        }

        boolean isThing(int number) {
            return within(number, 0, things - 1);
        }

        boolean isFull() {
            return things >= THINGS_MOST;
        }

        int add(int colour, int dye, int size) {
            if (isFull()) {
                return FULL;
            }
            int at = things * EACH;
            System.arraycopy(FIRST, COLOUR, numbers, at, EACH);
            numbers[at + COLOUR] = colour;
            numbers[at + DYE] = dye;
            numbers[at + SIZE] = size;
            things++;
            return things - 1;
        }

        /** Where a number of mend() stands; NONE: there is no such number. */
        int slot(int number, int what) {
            if (within(what, COLOUR, BY)) {
                return isThing(number) ? number * EACH + what : NONE;
            }
            return within(what, DRUM, LINE) && number == 0 ? HOUSE + what - DRUM : NONE;
        }

        int numberAt(int slot) {
            return slot >= 0 && slot < numbers.length ? numbers[slot] : 0;
        }

        void write(int slot, int v) {
            if (slot >= 0 && slot < numbers.length) {
                numbers[slot] = v;
            }
        }

        int told(int thing, int what) {
            int slot = thing * EACH + what;
            return slot >= 0 && slot < HOUSE ? numbers[slot] : 0;
        }

        int toldOfHouse(int what) {
            int slot = HOUSE + what - DRUM;
            return slot >= HOUSE && slot < numbers.length ? numbers[slot] : 0;
        }

        int stateOf(int number, int what) {
            if (!isThing(number)) {
                return BAD;
            }
            if (what == TINT) {
                return tints[number];
            }
            return gone[number] ? 1 : 0;
        }

        int goneOnes() {
            int n = 0;
            for (int thing = 0; thing < things; thing++) {
                n += gone[thing] ? 1 : 0;
            }
            return n;
        }
    }

    /**
     * THE LAW as steps over a stack. A step of 0 or more is a number, -1 to -6 are NAMES, and below
     * them stand the signs, each as its byte with a minus.
     */
    private static final class Law {
        static final String NAMES = "rnhcsb";
        static final int NEGATE = '~';
        static final int STEPS_MOST = Tape.BYTES_MOST + 1;
        private static final int NAMED = 6;

        private final int[] steps = new int[STEPS_MOST];
        // 7 levels of brackets with 5 ranks of signs, and a first E, leave fewer than 40 open.
        private final int[] stack = new int[64];
        private final int[] named = new int[NAMED];
        private int length;
        private int top;

        void become(Tape tape) {
            length = Math.min(tape.written, STEPS_MOST);
            System.arraycopy(tape.steps, 0, steps, 0, length);
        }

        boolean isTold() {
            return length > 0;
        }

        void name(int r, int n, int h, int c, int s, int b) {
            named[0] = r;
            named[1] = n;
            named[2] = h;
            named[3] = c;
            named[4] = s;
            named[5] = b;
        }

        /** What the first LINE that counts gives, by the numbers last named. */
        int worth() {
            top = 0;
            for (int i = 0; i < length; i++) {
                int step = steps[i];
                if (step == -';') {
                    return pop();
                }
                if (step == -'?') {
                    int second = pop();
                    if (pop() != 0) {
                        return second;
                    }
                } else {
                    push(value(step));
                }
            }
            return 0;
        }

        private int value(int step) {
            if (step >= 0) {
                return step;
            }
            if (step >= -NAMED) {
                return named[-1 - step];
            }
            int right = pop();
            if (step == -'!') {
                return right == 0 ? 1 : 0;
            }
            if (step == -NEGATE) {
                return -right;
            }
            return joined(-step, pop(), right);
        }

        private static int joined(int sign, int left, int right) {
            switch (sign) {
                case '|':
                    return left != 0 || right != 0 ? 1 : 0;
                case '&':
                    return left != 0 && right != 0 ? 1 : 0;
                case '<':
                    return left < right ? 1 : 0;
                case '=':
                    return left == right ? 1 : 0;
                case '>':
                    return left > right ? 1 : 0;
                case '+':
                    return left + right;
                case '-':
                    return left - right;
                case '*':
                    return left * right;
                case '/':
                    return right == 0 ? 0 : left / right;
                case '%':
                    return right == 0 ? 0 : left % right;
                default:
                    return 0;
            }
        }

        private void push(int v) {
            if (top < stack.length) {
                stack[top] = v;
                top++;
            }
        }

        private int pop() {
            if (top <= 0) {
                return 0;
            }
            top--;
            return stack[top];
        }
    }

    /**
     * THE TAPE, and its reading into steps: byte by byte, with the signs that wait for what stands
     * right of them on a stack, so that the first byte refused is the FAULT.
     */
    private static final class Tape {
        static final int BYTES_MOST = 120;
        private static final int DIGITS_MOST = 4, OPEN_MOST = 6;
        private static final int COMPARES = 3;

        private final int[] bytes = new int[BYTES_MOST];
        final int[] steps = new int[Law.STEPS_MOST];
        private final int[] waiting = new int[BYTES_MOST];
        int length;
        int written;
        private int waits;
        private int open;
        private int digits;
        private int numberAt;
        private boolean wantsOperand;
        private boolean isSecond;

        boolean isFull() {
            return length >= BYTES_MOST;
        }

        int add(int letter) {
            if (isFull()) {
                return FULL;
            }
            bytes[length] = letter;
            length++;
            return length;
        }

        void clear() {
            length = 0;
        }

        /** Reads all bytes into steps: NONE, or the FAULT. */
        int read() {
            written = 0;
            waits = 0;
            open = 0;
            digits = 0;
            wantsOperand = true;
            isSecond = false;
            for (int at = 0; at < length; at++) {
                if (!takes(bytes[at])) {
                    return at;
                }
            }
            if (wantsOperand || open > 0) {
                return length;
            }
            endLine();
            return NONE;
        }

        private boolean takes(int c) {
            if (within(c, '0', '9')) {
                return takesDigit(c - '0');
            }
            digits = 0;
            return wantsOperand ? takesOperand(c) : takesSign(c);
        }

        private boolean takesDigit(int digit) {
            if (wantsOperand) {
                numberAt = written;
                digits = 1;
                writeStep(digit);
                endOperand();
                return true;
            }
            if (digits == 0 || digits >= DIGITS_MOST || !within(numberAt, 0, written - 1)) {
                return false;
            }
            steps[numberAt] = steps[numberAt] * 10 + digit;
            digits++;
            return true;
        }

        private boolean takesOperand(int c) {
            int name = Law.NAMES.indexOf((char) c);
            if (name >= 0) {
                writeStep(-1 - name);
                endOperand();
                return true;
            }
            if ((c != '(' && c != '!' && c != '-') || open >= OPEN_MOST) {
                return false;
            }
            open++;
            pushWaiting(c == '-' ? Law.NEGATE : c);
            return true;
        }

        private boolean takesSign(int c) {
            if (rank(c) > 0) {
                return takesJoint(c);
            }
            if (c == ')') {
                return takesClose();
            }
            if (open > 0) {
                return false;
            }
            if (c == ';') {
                endLine();
                return true;
            }
            if (c != '?' || isSecond) {
                return false;
            }
            release(1);
            isSecond = true;
            wantsOperand = true;
            return true;
        }

        private boolean takesJoint(int c) {
            int rank = rank(c);
            if (rank == COMPARES) {
                release(COMPARES + 1);
                // S < S < S is no B, so a second one may not follow the first.
                if (rank(lastWaiting()) == COMPARES) {
                    return false;
                }
            } else {
                release(rank);
            }
            pushWaiting(c);
            wantsOperand = true;
            return true;
        }

        private boolean takesClose() {
            release(1);
            if (lastWaiting() != '(') {
                return false;
            }
            waits--;
            open--;
            endOperand();
            return true;
        }

        /** An O is whole: the ! and - right ahead of it have what they waited for. */
        private void endOperand() {
            wantsOperand = false;
            while (waits > 0 && (lastWaiting() == '!' || lastWaiting() == Law.NEGATE)) {
                writeStep(-lastWaiting());
                waits--;
                open--;
            }
        }

        private void endLine() {
            release(1);
            writeStep(isSecond ? -'?' : -';');
            isSecond = false;
            wantsOperand = true;
        }

        /** Writes the waiting signs between two O that bind at least so close. */
        private void release(int leastRank) {
            while (waits > 0 && rank(lastWaiting()) >= leastRank) {
                writeStep(-lastWaiting());
                waits--;
            }
        }

        private static int rank(int c) {
            switch (c) {
                case '|':
                    return 1;
                case '&':
                    return 2;
                case '<':
                case '=':
                case '>':
                    return COMPARES;
                case '+':
                case '-':
                    return 4;
                case '*':
                case '/':
                case '%':
                    return 5;
                default:
                    return 0;
            }
        }

        private int lastWaiting() {
            return waits > 0 && waits <= BYTES_MOST ? waiting[waits - 1] : 0;
        }

        private void pushWaiting(int c) {
            if (waits < BYTES_MOST) {
                waiting[waits] = c;
                waits++;
            }
        }

        private void writeStep(int step) {
            if (written < Law.STEPS_MOST) {
                steps[written] = step;
                written++;
            }
        }
    }

    /** One RUN in thought: a heat, a set, and how much dye is loose. */
    private static final class Tub {
        private final Basket basket;
        private final Law dyeLaw;
        private final int[] given = new int[THINGS_MOST];
        private int heat = COOLEST;
        int set;
        int loose;

        Tub(Basket basket, Law dyeLaw) {
            this.basket = basket;
            this.dyeLaw = dyeLaw;
        }

        int dyeOf(int thing, int atHeat) {
            return dyeIf(thing, basket.told(thing, Basket.DYE), basket.told(thing, Basket.WASHED), atHeat);
        }

        int dyeIf(int thing, int dye, int washed, int atHeat) {
            if (!dyeLaw.isTold()) {
                return Math.max(0, dye - washed) * atHeat / 3;
            }
            dyeLaw.name(dye, washed, atHeat, basket.told(thing, Basket.COLOUR),
                    basket.told(thing, Basket.SIZE), basket.told(thing, Basket.BEARS));
            return Math.max(0, Math.min(99, dyeLaw.worth()));
        }

        /** What each THING gives at a heat is worked out once, for all sets that fill the tub then. */
        void warm(int toHeat) {
            heat = toHeat;
            for (int thing = 0; thing < basket.things; thing++) {
                given[thing] = dyeIf(thing, basket.told(thing, Basket.DYE), basket.told(thing, Basket.WASHED), toHeat);
            }
        }

        void suppose(int thing, int dye) {
            if (basket.isThing(thing)) {
                given[thing] = dyeIf(thing, dye, basket.told(thing, Basket.WASHED), heat);
            }
        }

        void load(int withSet, int hc) {
            warm(hc / 10);
            fill(withSet, caughtBy(hc % 10));
        }

        int caughtBy(int cloths) {
            return cloths * basket.toldOfHouse(Basket.CLOTH);
        }

        void fill(int withSet, int caught) {
            set = withSet;
            int all = 0;
            for (int thing = 0; thing < basket.things; thing++) {
                all += isOf(withSet, thing) ? given[thing] : 0;
            }
            loose = Math.max(0, all - caught);
        }

        int tintOf(int thing) {
            if (!basket.isThing(thing)) {
                return 0;
            }
            int foreign = Math.max(0, loose - given[thing]);
            switch (basket.told(thing, Basket.COLOUR)) {
                case 0:
                    return foreign;
                case 1:
                    return foreign / 2;
                case 2:
                    return foreign / 10;
                default:
                    return 0;
            }
        }

        int allTints() {
            int all = 0;
            for (int thing = 0; thing < basket.things; thing++) {
                all += isOf(set, thing) ? tintOf(thing) : 0;
            }
            return all;
        }

        int spoilt() {
            int bits = 0;
            for (int thing = 0; thing < basket.things; thing++) {
                if (isOf(set, thing) && heat > basket.told(thing, Basket.BEARS)) {
                    bits |= 1 << thing;
                }
            }
            return bits;
        }

        boolean goes() {
            return mayGo(set);
        }

        private boolean mayGo(int things) {
            int size = 0;
            for (int thing = 0; thing < basket.things; thing++) {
                if (isOf(things, thing)) {
                    if (basket.gone[thing]) {
                        return false;
                    }
                    size += basket.told(thing, Basket.SIZE);
                }
            }
            return size <= basket.toldOfHouse(Basket.DRUM);
        }

        boolean isSafe(int most) {
            if (!goes() || spoilt() != 0) {
                return false;
            }
            for (int thing = 0; thing < basket.things; thing++) {
                if (isOf(set, thing) && tintOf(thing) > most) {
                    return false;
                }
            }
            return true;
        }

        /** Fills the tub with a week's RUN drawn from z on; answers the z it came to. */
        int draw(int fromZ) {
            int z = fromZ;
            int week = 0;
            for (int thing = 0; thing < basket.things; thing++) {
                z = z * 1103515245 + 12345;
                if ((z >>> 8) % 12 < 6 && mayGo(week | 1 << thing)) {
                    week |= 1 << thing;
                }
            }
            fill(week, 0);
            return z;
        }
    }

    /**
     * Ways to part a set into RUNS: the one whose RUNS' prices together are least and, of like ones,
     * the first by the RUNS' numbers. A RUN never gets cheaper by one more THING.
     */
    private static final class Heaps {
        private static final int NEVER = Integer.MAX_VALUE;

        private final Tub tub;
        private final int[] members = new int[HEAPED_MOST];
        // By the places of its members (bits); NONE: such a RUN may not be.
        private final int[] prices = new int[1 << HEAPED_MOST];
        private final int[] runs = new int[HEAPED_MOST];
        private final int[] ways = new int[HEAPED_MOST];
        private final int[] best = new int[HEAPED_MOST];
        private int size;
        private int runsMost;
        int least;

        Heaps(Tub tub) {
            this.tub = tub;
        }

        boolean fewestRuns(int set, int tintMost) {
            gather(set);
            for (int bits = 1; bits < 1 << size; bits++) {
                tub.fill(thingsOf(bits), 0);
                prices[bits] = tub.isSafe(tintMost) ? 1 : NONE;
            }
            return findsWay(HEAPED_MOST);
        }

        boolean leastTints(int set, int most) {
            gather(set);
            for (int bits = 1; bits < 1 << size; bits++) {
                tub.fill(thingsOf(bits), 0);
                prices[bits] = tub.goes() && tub.spoilt() == 0 ? tub.allTints() : NONE;
            }
            return findsWay(most);
        }

        int runOf(int thing) {
            for (int i = 0; i < size; i++) {
                if (members[i] == thing) {
                    return best[i];
                }
            }
            return NOT;
        }

        private void gather(int set) {
            size = 0;
            for (int thing = 0; thing < THINGS_MOST && size < HEAPED_MOST; thing++) {
                if (isOf(set, thing)) {
                    members[size] = thing;
                    size++;
                }
            }
        }

        private int thingsOf(int bits) {
            int things = 0;
            for (int i = 0; i < size; i++) {
                things |= (bits >>> i & 1) << members[i];
            }
            return things;
        }

        private boolean findsWay(int most) {
            runsMost = Math.min(most, HEAPED_MOST);
            least = NEVER;
            for (int i = 0; i < HEAPED_MOST; i++) {
                runs[i] = 0;
            }
            part(0, 0, 0);
            return least != NEVER;
        }

        /** Ways come by their numbers, and only a cheaper one takes the place of one found. */
        private void part(int at, int used, int price) {
            if (price >= least) {
                return;
            }
            if (at >= size) {
                least = price;
                System.arraycopy(ways, 0, best, 0, HEAPED_MOST);
                return;
            }
            for (int i = 0; i <= used && i < runsMost; i++) {
                int before = runs[i];
                int after = before | 1 << at;
                if (prices[after] != NONE) {
                    runs[i] = after;
                    ways[at] = i;
                    int dearer = before == 0 ? prices[after] : prices[after] - prices[before];
                    part(at + 1, Math.max(used, i + 1), price + dearer);
                    runs[i] = before;
                }
            }
        }
    }

    /** In which RUN each THING is, by a ROW, and what that means by days. */
    private static final class Plan {
        private static final int RUNS = 20;

        private final Basket basket;
        private final int[] runs = new int[THINGS_MOST];

        Plan(Basket basket) {
            this.basket = basket;
        }

        void read(Shelf row) {
            for (int thing = 0; thing < basket.things; thing++) {
                long run = row.hasPlace(thing) ? row.elements[thing] : NONE;
                runs[thing] = run >= 0 && run < RUNS ? (int) run : NONE;
            }
        }

        int lateThings() {
            int late = 0;
            for (int thing = 0; thing < basket.things; thing++) {
                if (runs[thing] == NONE || dayOf(runs[thing]) > basket.told(thing, Basket.BY)) {
                    late |= 1 << thing;
                }
            }
            return late;
        }

        /** All days late together, if two RUNS were exchanged (a RUN with itself: as it is). */
        int daysLate(int a, int b) {
            int days = 0;
            for (int thing = 0; thing < basket.things; thing++) {
                if (runs[thing] != NONE) {
                    int day = dayOf(exchanged(runs[thing], a, b));
                    days += Math.max(0, day - basket.told(thing, Basket.BY));
                }
            }
            return days;
        }

        int dayFor(int who) {
            int day = NOT;
            for (int thing = 0; thing < basket.things; thing++) {
                if (basket.told(thing, Basket.WHO) == who) {
                    if (runs[thing] == NONE) {
                        return NOT;
                    }
                    day = Math.max(day, dayOf(runs[thing]));
                }
            }
            return day;
        }

        int bestPair() {
            int fewest = daysLate(0, 0);
            int pair = NOT;
            for (int a = 0; a < RUNS; a++) {
                for (int b = a + 1; b < RUNS; b++) {
                    int days = daysLate(a, b);
                    if (days < fewest) {
                        fewest = days;
                        pair = RUNS * a + b;
                    }
                }
            }
            return pair;
        }

        private int dayOf(int run) {
            int each = basket.toldOfHouse(Basket.DAY);
            return each > 0 ? run / each : 0;
        }

        private static int exchanged(int run, int a, int b) {
            if (run == a) {
                return b;
            }
            return run == b ? a : run;
        }
    }

    /** THE LINE: THINGS as they are hung one behind the other, each with its minutes. */
    private static final class Rope {
        private static final int NEVER = Integer.MAX_VALUE;

        private final Basket basket;
        private final int[] chain = new int[THINGS_MOST];
        final int[] hungAt = new int[THINGS_MOST];
        final int[] dryAt = new int[THINGS_MOST];
        final int[] best = new int[THINGS_MOST];
        int hung;
        int soonest;

        Rope(Basket basket) {
            this.basket = basket;
        }

        /** Hangs a set by numbers, up to the first that never finds room. */
        void hang(int set) {
            hung = 0;
            for (int thing = 0; thing < basket.things; thing++) {
                if (isOf(set, thing)) {
                    if (!hangs(thing, hung)) {
                        return;
                    }
                    hung++;
                }
            }
        }

        int placeOf(int thing) {
            for (int i = 0; i < hung; i++) {
                if (chain[i] == thing) {
                    return i;
                }
            }
            return NONE;
        }

        int allDry() {
            int minute = 0;
            for (int i = 0; i < hung; i++) {
                minute = Math.max(minute, dryAt[i]);
            }
            return minute;
        }

        int hangingAt(int minute) {
            int bits = 0;
            for (int i = 0; i < hung; i++) {
                if (hungAt[i] <= minute && minute < dryAt[i]) {
                    bits |= 1 << chain[i];
                }
            }
            return bits;
        }

        boolean findOrder(int set) {
            soonest = NEVER;
            arrange(set, 0, 0);
            return soonest != NEVER;
        }

        /** Orders come by their numbers, and only a sooner one takes the place of one found. */
        private void arrange(int left, int place, int end) {
            if (end >= soonest || place > ORDERED_MOST) {
                return;
            }
            if (left == 0) {
                soonest = end;
                System.arraycopy(chain, 0, best, 0, place);
                return;
            }
            for (int thing = 0; thing < basket.things; thing++) {
                if (isOf(left, thing) && hangs(thing, place)) {
                    arrange(left & ~(1 << thing), place + 1, Math.max(end, dryAt[place]));
                }
            }
        }

        /** Hangs a THING behind those at the places ahead, unless the line is too short for it. */
        private boolean hangs(int thing, int place) {
            int size = basket.told(thing, Basket.SIZE);
            if (place >= THINGS_MOST || size > basket.toldOfHouse(Basket.LINE)) {
                return false;
            }
            chain[place] = thing;
            hungAt[place] = minuteFor(size, place);
            dryAt[place] = hungAt[place] + basket.told(thing, Basket.DRIES) * 10;
            return true;
        }

        private int minuteFor(int size, int ahead) {
            int room = basket.toldOfHouse(Basket.LINE) - size;
            int minute = ahead > 0 ? hungAt[ahead - 1] : 0;
            // Each step takes at least one of those ahead off the line.
            for (int step = 0; step < ahead && loadAt(minute, ahead) > room; step++) {
                minute = nextDry(minute, ahead);
            }
            return minute;
        }

        private int loadAt(int minute, int ahead) {
            int load = 0;
            for (int i = 0; i < ahead; i++) {
                load += dryAt[i] > minute ? basket.told(chain[i], Basket.SIZE) : 0;
            }
            return load;
        }

        private int nextDry(int minute, int ahead) {
            int next = NEVER;
            for (int i = 0; i < ahead; i++) {
                if (dryAt[i] > minute) {
                    next = Math.min(next, dryAt[i]);
                }
            }
            return next == NEVER ? minute : next;
        }
    }

    /** What is washed in deed, what LED tells of it, and AN IMAGE of both. */
    private static final class Deeds {
        static final int RUNS = 0, TINTS = 1, SPOILT = 2, CLOTHS = 3, THROWN_AWAY = 4;

        private final Basket basket;
        final int[] led = new int[THROWN_AWAY];
        private final int[] keptLed = new int[THROWN_AWAY];
        private final int[] keptWashed = new int[THINGS_MOST];
        private final int[] keptTints = new int[THINGS_MOST];
        private final boolean[] keptGone = new boolean[THINGS_MOST];
        private int keptThings = NONE;

        Deeds(Basket basket) {
            this.basket = basket;
        }

        /** Washes what is in the tub; its tints are those before any THING is washed once more. */
        int washAll(Tub tub, int cloths) {
            int all = tub.allTints();
            led[RUNS]++;
            led[TINTS] += all;
            led[SPOILT] += Integer.bitCount(tub.spoilt());
            led[CLOTHS] += cloths;
            for (int thing = 0; thing < basket.things; thing++) {
                if (isOf(tub.set, thing)) {
                    basket.tints[thing] = Math.min(TINT_MOST, basket.tints[thing] + tub.tintOf(thing));
                    int washed = basket.told(thing, Basket.WASHED);
                    basket.write(basket.slot(thing, Basket.WASHED), Math.min(WASHED_MOST, washed + 1));
                }
            }
            return all;
        }

        boolean hasImage() {
            return keptThings != NONE;
        }

        void keepImage() {
            keptThings = basket.things;
            System.arraycopy(led, 0, keptLed, 0, THROWN_AWAY);
            for (int thing = 0; thing < basket.things; thing++) {
                keptWashed[thing] = basket.told(thing, Basket.WASHED);
                keptTints[thing] = basket.tints[thing];
                keptGone[thing] = basket.gone[thing];
            }
        }

        void layBack() {
            System.arraycopy(keptLed, 0, led, 0, THROWN_AWAY);
            for (int thing = 0; thing < basket.things; thing++) {
                boolean isOld = thing < keptThings;
                basket.tints[thing] = isOld ? keptTints[thing] : 0;
                basket.gone[thing] = isOld && keptGone[thing];
                if (isOld) {
                    basket.write(basket.slot(thing, Basket.WASHED), keptWashed[thing]);
                }
            }
        }
    }

    /** CHANGES: those done, the latest last, and behind them those undone. */
    private static final class Changes {
        private static final int MOST = 40;

        private final int[] slots = new int[MOST];
        private final int[] before = new int[MOST];
        private final int[] after = new int[MOST];
        int done;
        int undone;

        void add(int slot, int was, int becomes) {
            if (done >= MOST) {
                forgetFirst();
            }
            slots[done] = slot;
            before[done] = was;
            after[done] = becomes;
            done++;
            undone = 0;
        }

        private void forgetFirst() {
            System.arraycopy(slots, 1, slots, 0, MOST - 1);
            System.arraycopy(before, 1, before, 0, MOST - 1);
            System.arraycopy(after, 1, after, 0, MOST - 1);
            done = MOST - 1;
        }

        void takeBack(Basket basket) {
            if (done > 0) {
                done--;
                undone++;
                basket.write(slots[done], before[done]);
            }
        }

        void doAgain(Basket basket) {
            if (undone > 0 && done < MOST) {
                basket.write(slots[done], after[done]);
                done++;
                undone--;
            }
        }
    }

    /** BODIES of KINDS, and THE TRACE of the latest act. */
    private static final class Socks {
        static final int RUNS = 0, TINTS = 1, DRIES = 2, TELLS = 3;
        static final int KIND_LAST = 7;
        private static final int BODIES_MOST = 50, TRACE_MOST = 24, DEEPEST = 40;
        private static final int ACTS = 4;
        private static final int[] ABOVE = {-1, 0, 0, 2, 1, 3, 0, 6};
        // Bodies of runs, tints, dries, tells, a line a KIND; 0: the KIND has none of its own.
        private static final int[] OWN = {
            1, 10, 11, 2,
            20, 0, 0, 0,
            0, 30, 0, 0,
            0, 41, 40, 0,
            0, 0, 0, 50,
            0, 0, 60, 61,
            70, 0, 0, 0,
            81, 80, 0, 0};

        final int[] kinds = new int[BODIES_MOST];
        final int[] traced = new int[TRACE_MOST];
        int bodies;
        int ran;

        boolean isFull() {
            return bodies >= BODIES_MOST;
        }

        boolean isBody(int number) {
            return within(number, 0, bodies - 1);
        }

        int add(int kind) {
            if (isFull()) {
                return FULL;
            }
            kinds[bodies] = kind;
            bodies++;
            return bodies - 1;
        }

        static boolean isUnder(int kind, int top) {
            int at = kind;
            for (int step = 0; step <= KIND_LAST && at >= 0; step++) {
                if (at == top) {
                    return true;
                }
                at = ABOVE[at];
            }
            return false;
        }

        int kept() {
            return Math.min(ran, TRACE_MOST);
        }

        int begin(int number, int act, int x) {
            ran = 0;
            return within(act, RUNS, TELLS) ? own(number, act, x, 0) : 0;
        }

        private int own(int number, int act, int x, int depth) {
            return isBody(number) ? from(kinds[number], number, act, x, depth) : 0;
        }

        /** Runs the act's body of a KIND, or of the next KIND above that has one. */
        private int from(int kind, int number, int act, int x, int depth) {
            int owner = ownerOf(kind, act);
            if (owner == NONE || depth > DEEPEST) {
                return 0;
            }
            int body = OWN[owner * ACTS + act];
            note(body);
            if (owner == 0) {
                return topmost(body, number, x, depth + 1);
            }
            int arg = body == 41 ? x + 1 : x;
            int above = from(ABOVE[owner], number, act, arg, depth + 1);
            return lower(body, number, above, depth + 1);
        }

        private static int ownerOf(int kind, int act) {
            int at = kind;
            for (int step = 0; step <= KIND_LAST && at >= 0; step++) {
                if (OWN[at * ACTS + act] != 0) {
                    return at;
                }
                at = ABOVE[at];
            }
            return NONE;
        }

        private int topmost(int body, int number, int x, int depth) {
            switch (body) {
                case 1:
                    return x + number;
                case 10:
                    return own(number, RUNS, x, depth) * 2;
                case 11:
                    return x ^ number;
                case 2:
                    return own(number, TINTS, x, depth) - own(number, DRIES, 1, depth);
                default:
                    return 0;
            }
        }

        /** The bodies below SOCK: each runs the one above it first, and goes on with its answer. */
        private int lower(int body, int number, int above, int depth) {
            switch (body) {
                case 20:
                    return above + 3;
                case 30:
                    return -above;
                case 40:
                    return above * 3;
                case 50:
                    return above ^ 5;
                case 60:
                    return above - own(number, RUNS, 2, depth);
                case 61:
                    return above + 1;
                case 70:
                    return above * 2;
                case 80:
                    return above + own(number, DRIES, 2, depth);
                case 81:
                    return above - 1;
                default:
                    return above;
            }
        }

        private void note(int body) {
            if (ran < TRACE_MOST) {
                traced[ran] = body;
            }
            ran++;
        }
    }

    /** A SHELF with nothing, a BODY or a ROW; elements are kept as longs of the ROW's sort. */
    private static final class Shelf {
        static final int NOTHING = -2, BODY = -1;
        static final int BYTES = 0, SHORTS = 1, INTS = 2, LONGS = 3, BOOLEANS = 4;
        static final int ELEMENTS_MOST = 60;

        final long[] elements = new long[ELEMENTS_MOST];
        int sort = NOTHING;
        int body = NONE;
        private int length;

        boolean isRow() {
            return sort >= BYTES;
        }

        boolean hasPlace(int i) {
            return isRow() && within(i, 0, length - 1);
        }

        boolean hasPlaces(int i, int n) {
            return isRow() && i >= 0 && n >= 0 && n <= length && i <= length - n;
        }

        void hold(int number) {
            sort = number == NONE ? NOTHING : BODY;
            body = number;
            length = 0;
        }

        void holdRow(int ofSort, int n) {
            sort = ofSort;
            body = NONE;
            length = Math.max(0, Math.min(n, ELEMENTS_MOST));
            for (int i = 0; i < length; i++) {
                elements[i] = 0;
            }
        }

        void write(int i, long v) {
            if (hasPlace(i)) {
                elements[i] = lowest(v);
            }
        }

        private long lowest(long v) {
            switch (sort) {
                case BYTES:
                    return (byte) v;
                case SHORTS:
                    return (short) v;
                case INTS:
                    return (int) v;
                case BOOLEANS:
                    return v == 0 ? 0 : 1;
                default:
                    return v;
            }
        }
    }
}
