import java.util.Arrays;

/** Sets at prices that have to cover things. README.md tells what is where; the document tells what is promised. */
public final class CoverShares {
    public static final int NO_SUCH = -1, BAD_VALUE = -2, BAD_TEXT = -3, TOO_MANY = -4, NOT_POSSIBLE = -5, NONE = -6;
    public static final int FREE = 0, TAKEN = 1, BARRED = 2;

    private static final int THINGS = 18;
    private static final int ALL_THINGS = (1 << THINGS) - 1;
    private static final int MOST_SETS = 14;
    private static final int MOST_PRICE = 500;
    private static final int MOST_TOGETHER = MOST_SETS * MOST_PRICE;
    private static final int ABOVE_ALL_PRICES = 1_000_000;
    private static final int SLOTS = 2;

    private final State now = new State();
    private final History history = new History();
    private final Slots slots = new Slots();
    private final Pad pad = new Pad();
    private final Shares shares = new Shares();
    private final Greedy byRate = new Greedy();
    private final Search search = new Search();

    public CoverShares() {
    }

    // ---- things and sets

    public int need(int things) {
        if (things < 0 || things > ALL_THINGS) {
            return BAD_VALUE;
        }
        history.record(now);
        int before = now.needed;
        now.needed = things;
        return before;
    }

    public int set(int things, int price) {
        if (!areSomeThings(things) || !isPrice(price)) {
            return BAD_VALUE;
        }
        if (now.size >= MOST_SETS) {
            return TOO_MANY;
        }
        history.record(now);
        now.append(things, price);
        return now.size - 1;
    }

    public int price(int set, int price) {
        if (!now.hasSet(set)) {
            return NO_SUCH;
        }
        if (!isPrice(price)) {
            return BAD_VALUE;
        }
        history.record(now);
        int before = now.prices[set];
        now.prices[set] = price;
        return before;
    }

    public int mark(int set, int mark) {
        if (!now.hasSet(set)) {
            return NO_SUCH;
        }
        if (mark < FREE || mark > BARRED) {
            return BAD_VALUE;
        }
        history.record(now);
        int before = now.marks[set];
        now.marks[set] = mark;
        return before;
    }

    public int turn(int set, int things) {
        if (!now.hasSet(set)) {
            return NO_SUCH;
        }
        if (!areSomeThings(things)) {
            return BAD_VALUE;
        }
        int then = now.things[set] ^ things;
        if (then == 0) {
            return NOT_POSSIBLE;
        }
        history.record(now);
        now.things[set] = then;
        return then;
    }

    public int drop(int set) {
        if (!now.hasSet(set)) {
            return NO_SUCH;
        }
        history.record(now);
        now.remove(set);
        return now.size;
    }

    // ---- texts

    public int put(long characters) {
        return pad.append(characters);
    }

    public int wipe() {
        int before = pad.length;
        pad.length = 0;
        return before;
    }

    public int fault() {
        return pad.read();
    }

    public int load() {
        if (pad.read() != NONE) {
            return BAD_TEXT;
        }
        if (now.size + pad.sets > MOST_SETS) {
            return TOO_MANY;
        }
        history.record(now);
        pad.appendSetsTo(now);
        pad.length = 0;
        return pad.sets;
    }

    // ---- what there is

    public int ofSet(int set, int what) {
        if (!now.hasSet(set)) {
            return NO_SUCH;
        }
        switch (what) {
            case 0:
                return now.things[set];
            case 1:
                return now.prices[set];
            case 2:
                return now.marks[set];
            case 3: case 4: case 5: case 6:
                return ofSetByShares(set, what);
            case 7:
                return now.neededAlone(set);
            default:
                return BAD_VALUE;
        }
    }

    private int ofSetByShares(int set, int what) {
        if (!now.hasCover()) {
            return NOT_POSSIBLE;
        }
        shares.raiseAll(now);
        switch (what) {
            case 3:
                return shares.fillings[set];
            case 4:
                return has(shares.tight, set) ? 1 : 0;
            case 5:
                return shares.places[set];
            default:
                return has(shares.dropped, set) ? 1 : 0;
        }
    }

    public int ofThing(int thing, int what) {
        if (thing < 0 || thing >= THINGS) {
            return NO_SUCH;
        }
        switch (what) {
            case 0:
                return has(now.needed, thing) ? 1 : 0;
            case 1:
                return now.setsWith(thing);
            case 2:
                return shareOf(thing);
            default:
                return BAD_VALUE;
        }
    }

    private int shareOf(int thing) {
        if (!now.hasCover()) {
            return NOT_POSSIBLE;
        }
        shares.raiseAll(now);
        return shares.raised[thing];
    }

    public int count(int what) {
        switch (what) {
            case 0:
                return now.size;
            case 1:
                return now.needed;
            case 2:
                return now.hasCover() ? 1 : 0;
            case 3:
                return now.mostSetsWithOneThing();
            case 4:
                return pad.length;
            case 5:
                return history.size;
            default:
                return BAD_VALUE;
        }
    }

    // ---- covers; nothing changes

    public int shared(int what) {
        if (what < 0 || what > 5) {
            return BAD_VALUE;
        }
        if (!now.hasCover()) {
            return NOT_POSSIBLE;
        }
        shares.raiseAll(now);
        int taken = now.marked(TAKEN);
        int cover = taken | (shares.tight & ~shares.dropped);
        switch (what) {
            case 0:
                return cover;
            case 1:
                return now.priceOf(cover);
            case 2:
                return shares.sum() + now.priceOf(taken);
            case 3:
                return shares.rounds;
            case 4:
                return shares.tightCount;
            default:
                return Integer.bitCount(shares.dropped);
        }
    }

    public int greedy(int what) {
        if (what < 0 || what > 2) {
            return BAD_VALUE;
        }
        if (!now.hasCover()) {
            return NOT_POSSIBLE;
        }
        byRate.choose(now);
        switch (what) {
            case 0:
                return byRate.chosen;
            case 1:
                return now.priceOf(byRate.chosen);
            default:
                return byRate.last;
        }
    }

    public int least(int what) {
        if (what < 0 || what > 1) {
            return BAD_VALUE;
        }
        if (!now.hasCover()) {
            return NOT_POSSIBLE;
        }
        search.findLeast(now);
        return what == 0 ? search.leastSets : search.leastPrice;
    }

    public int covers(int price) {
        if (price < 0 || price > MOST_TOGETHER) {
            return BAD_VALUE;
        }
        return search.countUpTo(now, price);
    }

    public int tightCovers() {
        return search.countTight(now);
    }

    public int staysUpTo(int set) {
        if (!now.hasSet(set)) {
            return NO_SUCH;
        }
        return search.greatestPriceToStay(now, set);
    }

    public int dearest(int what) {
        if (what < 0 || what > 1) {
            return BAD_VALUE;
        }
        if (!now.hasCover()) {
            return NOT_POSSIBLE;
        }
        if (now.needed == 0) {
            return NONE;
        }
        search.findDearest(now);
        return what == 0 ? search.dearestThing : search.priceWithoutDearest;
    }

    public int check(int sets) {
        if (sets < 0 || sets >= 1 << now.size) {
            return NO_SUCH;
        }
        return now.isCover(sets) ? now.priceOf(sets) : NONE;
    }

    // ---- undo, saving

    public int undo() {
        if (history.size == 0) {
            return NOT_POSSIBLE;
        }
        history.takeBack(now);
        return history.size;
    }

    public int save(int slot) {
        if (slot < 0 || slot >= SLOTS) {
            return BAD_VALUE;
        }
        slots.keep(slot, now);
        return now.size;
    }

    public int restore(int slot) {
        if (slot < 0 || slot >= SLOTS) {
            return BAD_VALUE;
        }
        if (!slots.isKept(slot)) {
            return NOT_POSSIBLE;
        }
        history.record(now);
        slots.copyTo(slot, now);
        return now.size;
    }

    private static boolean has(int mask, int number) {
        return (mask >> number & 1) != 0;
    }

    private static boolean areSomeThings(int things) {
        return things >= 1 && things <= ALL_THINGS;
    }

    private static boolean isPrice(int price) {
        return price >= 1 && price <= MOST_PRICE;
    }

    /** The things and the sets: all that undo brings back and that a slot keeps. */
    private static final class State {
        private int needed = 0;
        private int size = 0;
        private final int[] things = new int[MOST_SETS];
        private final int[] prices = new int[MOST_SETS];
        private final int[] marks = new int[MOST_SETS];

        void copyFrom(State other) {
            needed = other.needed;
            size = other.size;
            for (int set = 0; set < MOST_SETS; set++) {
                things[set] = other.things[set];
                prices[set] = other.prices[set];
                marks[set] = other.marks[set];
            }
        }

        boolean hasSet(int set) {
            return set >= 0 && set < size;
        }

        void append(int itsThings, int itsPrice) {
            if (size >= MOST_SETS) {
                return;
            }
            things[size] = itsThings;
            prices[size] = itsPrice;
            marks[size] = FREE;
            size++;
        }

        void remove(int set) {
            for (int later = set + 1; later < size; later++) {
                things[later - 1] = things[later];
                prices[later - 1] = prices[later];
                marks[later - 1] = marks[later];
            }
            size--;
        }

        int marked(int mark) {
            int sets = 0;
            for (int set = 0; set < size; set++) {
                if (marks[set] == mark) {
                    sets |= 1 << set;
                }
            }
            return sets;
        }

        int notBarred() {
            return marked(FREE) | marked(TAKEN);
        }

        int setsWith(int thing) {
            int sets = 0;
            for (int set = 0; set < size; set++) {
                if (has(things[set], thing)) {
                    sets |= 1 << set;
                }
            }
            return sets;
        }

        int thingsOf(int sets) {
            int all = 0;
            for (int set = 0; set < size; set++) {
                if (has(sets, set)) {
                    all |= things[set];
                }
            }
            return all;
        }

        int priceOf(int sets) {
            int sum = 0;
            for (int set = 0; set < size; set++) {
                if (has(sets, set)) {
                    sum += prices[set];
                }
            }
            return sum;
        }

        int missingIn(int sets) {
            return needed & ~thingsOf(sets);
        }

        boolean hasCover() {
            return missingIn(notBarred()) == 0;
        }

        boolean isCover(int sets) {
            int taken = marked(TAKEN);
            return (sets & taken) == taken && (sets & marked(BARRED)) == 0 && missingIn(sets) == 0;
        }

        int neededAlone(int set) {
            int rivals = notBarred();
            if (!has(rivals, set)) {
                return 0;
            }
            return needed & things[set] & ~thingsOf(rivals & ~(1 << set));
        }

        int mostSetsWithOneThing() {
            int rivals = notBarred();
            int most = 0;
            for (int thing = 0; thing < THINGS; thing++) {
                if (has(needed, thing)) {
                    most = Math.max(most, Integer.bitCount(setsWith(thing) & rivals));
                }
            }
            return most;
        }
    }

    /** The states before the latest changes, the oldest one first. */
    private static final class History {
        private static final int MOST_STATES = 6;

        private int size = 0;
        private final State[] states = new State[MOST_STATES];

        History() {
            for (int at = 0; at < MOST_STATES; at++) {
                states[at] = new State();
            }
        }

        void record(State state) {
            if (size >= MOST_STATES) {
                forgetOldest();
            }
            states[size].copyFrom(state);
            size++;
        }

        /** The oldest state's rows come last, to be written anew: nothing is made after the constructor. */
        private void forgetOldest() {
            State oldest = states[0];
            for (int at = 1; at < MOST_STATES; at++) {
                states[at - 1] = states[at];
            }
            states[MOST_STATES - 1] = oldest;
            size = MOST_STATES - 1;
        }

        void takeBack(State state) {
            if (size <= 0) {
                return;
            }
            size--;
            state.copyFrom(states[size]);
        }
    }

    /** The saved states. */
    private static final class Slots {
        private final State[] states = new State[SLOTS];
        private final boolean[] kept = new boolean[SLOTS];

        Slots() {
            for (int slot = 0; slot < SLOTS; slot++) {
                states[slot] = new State();
            }
        }

        boolean isKept(int slot) {
            return slot >= 0 && slot < SLOTS && kept[slot];
        }

        void keep(int slot, State state) {
            if (slot >= 0 && slot < SLOTS) {
                states[slot].copyFrom(state);
                kept[slot] = true;
            }
        }

        void copyTo(int slot, State state) {
            if (isKept(slot)) {
                state.copyFrom(states[slot]);
            }
        }
    }

    /** The text from which sets are read. */
    private static final class Pad {
        private static final int MOST_SIGNS = 80;
        private static final int SIGNS_AT_ONCE = 8;
        private static final int LOWEST_CODE = 33;
        private static final int HIGHEST_CODE = 126;
        /** Even the shortest set, as a=1, and its semicolon are four signs: there are fewer sets than this. */
        private static final int MOST_READ = MOST_SIGNS / 4 + 1;

        private int length = 0;
        private final char[] signs = new char[MOST_SIGNS];

        private int sets = 0;
        private final int[] things = new int[MOST_READ];
        private final int[] prices = new int[MOST_READ];
        private boolean inNumber = false;
        private int letters = 0;
        private int number = 0;

        int append(long characters) {
            int more = signsIn(characters);
            if (more == 0) {
                return BAD_VALUE;
            }
            if (length + more > MOST_SIGNS) {
                return TOO_MANY;
            }
            for (int left = more - 1; left >= 0; left--) {
                signs[length] = (char) (characters >>> 8 * left & 255);
                length++;
            }
            return length;
        }

        /** How many signs a number stands for, 0 if it stands for none or is not as it has to be. */
        private static int signsIn(long characters) {
            long rest = characters;
            int many = 0;
            for (int at = 0; at < SIGNS_AT_ONCE && rest != 0; at++) {
                long code = rest & 255;
                if (code < LOWEST_CODE || code > HIGHEST_CODE) {
                    return 0;
                }
                rest >>>= 8;
                many++;
            }
            return many;
        }

        /** Reads the sets of the text, and returns its fault. */
        int read() {
            sets = 0;
            beginSet();
            for (int at = 0; at < length; at++) {
                if (!takeSign(signs[at])) {
                    return at;
                }
            }
            if (number == 0) {
                return length;
            }
            endSet();
            return NONE;
        }

        private void beginSet() {
            inNumber = false;
            letters = 0;
            number = 0;
        }

        private void endSet() {
            if (sets < MOST_READ) {
                things[sets] = letters;
                prices[sets] = number;
                sets++;
            }
        }

        /** Whether a sign can stand where it stands; if so, it is taken into the set that is read. */
        private boolean takeSign(char sign) {
            if (inNumber) {
                return sign == ';' ? takeSemicolon() : takeDigit(sign);
            }
            return sign == '=' ? takeEqualsSign() : takeLetter(sign);
        }

        private boolean takeLetter(char sign) {
            int thing = sign - 'a';
            if (thing < 0 || thing >= THINGS || letters >= 1 << thing) {
                return false;
            }
            letters |= 1 << thing;
            return true;
        }

        private boolean takeEqualsSign() {
            inNumber = letters != 0;
            return inNumber;
        }

        private boolean takeDigit(char sign) {
            if (sign < '0' || sign > '9') {
                return false;
            }
            number = number * 10 + (sign - '0');
            return isPrice(number);
        }

        private boolean takeSemicolon() {
            if (number == 0) {
                return false;
            }
            endSet();
            beginSet();
            return true;
        }

        void appendSetsTo(State state) {
            for (int set = 0; set < sets && set < MOST_READ; set++) {
                state.append(things[set], prices[set]);
            }
        }
    }

    /** The shares, raised until each open thing is in a tight set, and the tight sets dropped in reverse. */
    private static final class Shares {
        private int open = 0;
        private int inTight = 0;
        private int rounds = 0;
        private int tight = 0;
        private int tightCount = 0;
        private int dropped = 0;
        private final int[] raised = new int[THINGS];
        private final int[] fillings = new int[MOST_SETS];
        private final int[] places = new int[MOST_SETS];
        private final int[] order = new int[MOST_SETS];

        /** A share is never above the price of a set, and grows in each round: that bounds the rounds. */
        void raiseAll(State state) {
            begin(state);
            for (int round = 0; round < MOST_PRICE && (open & ~inTight) != 0; round++) {
                makeRound(state);
            }
            dropInReverse(state);
        }

        private void begin(State state) {
            open = state.missingIn(state.marked(TAKEN));
            inTight = 0;
            rounds = 0;
            tight = 0;
            tightCount = 0;
            dropped = 0;
            Arrays.fill(raised, 0);
            Arrays.fill(fillings, 0);
            Arrays.fill(places, NONE);
        }

        private void makeRound(State state) {
            rounds++;
            for (int thing = 0; thing < THINGS; thing++) {
                if (has(open & ~inTight, thing)) {
                    raised[thing]++;
                    fillSetsWith(thing, state);
                }
            }
        }

        /** Only sets with the raised thing can become tight by it, and none of them is tight yet. */
        private void fillSetsWith(int thing, State state) {
            for (int set = 0; set < state.size; set++) {
                if (state.marks[set] == FREE && has(state.things[set], thing)) {
                    fillings[set]++;
                    if (fillings[set] == state.prices[set]) {
                        becomeTight(set, state.things[set]);
                    }
                }
            }
        }

        private void becomeTight(int set, int itsThings) {
            if (tightCount < MOST_SETS) {
                order[tightCount] = set;
                places[set] = tightCount;
                tightCount++;
                tight |= 1 << set;
                inTight |= itsThings;
            }
        }

        private void dropInReverse(State state) {
            for (int place = tightCount - 1; place >= 0; place--) {
                int without = dropped | 1 << order[place];
                if ((open & ~state.thingsOf(tight & ~without)) == 0) {
                    dropped = without;
                }
            }
        }

        int sum() {
            int sum = 0;
            for (int thing = 0; thing < THINGS; thing++) {
                sum += raised[thing];
            }
            return sum;
        }
    }

    /** The cover by the best rate. */
    private static final class Greedy {
        private int chosen = 0;
        private int last = NONE;

        void choose(State state) {
            chosen = state.marked(TAKEN);
            last = NONE;
            for (int added = 0; added < MOST_SETS && state.missingIn(chosen) != 0; added++) {
                int best = bestByRate(state, state.missingIn(chosen));
                if (best == NONE) {
                    return;
                }
                chosen |= 1 << best;
                last = best;
            }
        }

        private static int bestByRate(State state, int missing) {
            int best = NONE;
            int bestPrice = 0;
            int bestGain = 0;
            for (int set = 0; set < state.size; set++) {
                int gain = Integer.bitCount(state.things[set] & missing);
                if (state.marks[set] != FREE || gain == 0) {
                    continue;
                }
                // The rates are compared as whole numbers: price / gain < bestPrice / bestGain.
                if (best == NONE || state.prices[set] * bestGain < bestPrice * gain) {
                    best = set;
                    bestPrice = state.prices[set];
                    bestGain = gain;
                }
            }
            return best;
        }
    }

    /**
     * Goes through all sets of sets that hold each TAKEN set and no BARRED one, from the lowest mask to the highest.
     * A level holds what the TAKEN sets and the chosen FREE sets from the place of that number on are together; so a
     * step from one mask to the next adds one set at one level, and level 0 holds what the whole mask is.
     */
    private static final class Walk {
        private int needed = 0;
        private int free = 0;
        private final int[] freeThings = new int[MOST_SETS];
        private final int[] freePrices = new int[MOST_SETS];
        private final int[] freeMasks = new int[MOST_SETS];
        private final int[] sets = new int[MOST_SETS + 1];
        private final int[] prices = new int[MOST_SETS + 1];
        private final int[] things = new int[MOST_SETS + 1];
        private final int[] thingsTwice = new int[MOST_SETS + 1];

        /** Begins a walk, and returns how many steps it has. */
        int begin(State state) {
            needed = state.needed;
            free = 0;
            Arrays.fill(sets, 0);
            Arrays.fill(prices, 0);
            Arrays.fill(things, 0);
            Arrays.fill(thingsTwice, 0);
            for (int set = 0; set < state.size; set++) {
                if (state.marks[set] == FREE) {
                    noteFree(1 << set, state.things[set], state.prices[set]);
                } else if (state.marks[set] == TAKEN) {
                    for (int level = 0; level <= MOST_SETS; level++) {
                        join(level, level, 1 << set, state.things[set], state.prices[set]);
                    }
                }
            }
            return 1 << free;
        }

        private void noteFree(int mask, int itsThings, int price) {
            if (free < MOST_SETS) {
                freeMasks[free] = mask;
                freeThings[free] = itsThings;
                freePrices[free] = price;
                free++;
            }
        }

        /** Makes a level what another one is, with one set more; the levels are 0 to MOST_SETS. */
        private void join(int level, int from, int mask, int itsThings, int price) {
            sets[level] = sets[from] | mask;
            prices[level] = prices[from] + price;
            thingsTwice[level] = thingsTwice[from] | things[from] & itsThings;
            things[level] = things[from] | itsThings;
        }

        /** Goes to a step; the steps are gone in their order, from 0 on. */
        void goTo(int step) {
            int place = Integer.numberOfTrailingZeros(step);
            if (place >= free || place >= MOST_SETS) {
                return;
            }
            join(place, place + 1, freeMasks[place], freeThings[place], freePrices[place]);
            for (int level = 0; level < place; level++) {
                join(level, place, 0, 0, 0);
            }
        }

        int chosen() {
            return sets[0];
        }

        int sum() {
            return prices[0];
        }

        int missing() {
            return needed & ~things[0];
        }

        boolean isFullCover() {
            return missing() == 0;
        }

        /** Whether each FREE set of the mask has a needed thing that no other set of the mask has. */
        boolean hasNoSpareSet() {
            int hadOnce = needed & ~thingsTwice[0];
            for (int place = 0; place < free && place < MOST_SETS; place++) {
                if ((sets[0] & freeMasks[place]) != 0 && (freeThings[place] & hadOnce) == 0) {
                    return false;
                }
            }
            return true;
        }
    }

    /** What is found by going through all covers. */
    private static final class Search {
        private final Walk walk = new Walk();
        private int leastSets = 0;
        private int leastPrice = 0;
        private int dearestThing = 0;
        private int priceWithoutDearest = 0;
        private final int[] leastMissingOne = new int[THINGS];

        void findLeast(State state) {
            int steps = walk.begin(state);
            leastSets = 0;
            leastPrice = ABOVE_ALL_PRICES;
            for (int step = 0; step < steps; step++) {
                walk.goTo(step);
                if (walk.isFullCover() && walk.sum() < leastPrice) {
                    leastSets = walk.chosen();
                    leastPrice = walk.sum();
                }
            }
        }

        int countUpTo(State state, int price) {
            int steps = walk.begin(state);
            int many = 0;
            for (int step = 0; step < steps; step++) {
                walk.goTo(step);
                if (walk.isFullCover() && walk.sum() <= price) {
                    many++;
                }
            }
            return many;
        }

        int countTight(State state) {
            int steps = walk.begin(state);
            int many = 0;
            for (int step = 0; step < steps; step++) {
                walk.goTo(step);
                if (walk.isFullCover() && walk.hasNoSpareSet()) {
                    many++;
                }
            }
            return many;
        }

        /** The set stays as long as it makes its covers no dearer than those without it. */
        int greatestPriceToStay(State state, int set) {
            int steps = walk.begin(state);
            int leastWith = ABOVE_ALL_PRICES;
            int leastWithout = ABOVE_ALL_PRICES;
            for (int step = 0; step < steps; step++) {
                walk.goTo(step);
                if (!walk.isFullCover()) {
                    continue;
                }
                if (has(walk.chosen(), set)) {
                    leastWith = Math.min(leastWith, walk.sum());
                } else {
                    leastWithout = Math.min(leastWithout, walk.sum());
                }
            }
            if (leastWith == ABOVE_ALL_PRICES) {
                return NONE;
            }
            int itsOthers = leastWith - state.priceOf(1 << set);
            int greatest = Math.min(MOST_PRICE, leastWithout - itsOthers);
            return greatest >= 1 ? greatest : NONE;
        }

        void findDearest(State state) {
            findLeastMissingOne(state);
            dearestThing = NONE;
            priceWithoutDearest = ABOVE_ALL_PRICES;
            for (int thing = 0; thing < THINGS; thing++) {
                int price = Math.min(leastPrice, leastMissingOne[thing]);
                if (has(state.needed, thing) && price < priceWithoutDearest) {
                    dearestThing = thing;
                    priceWithoutDearest = price;
                }
            }
        }

        /** For each thing the least price of what would be a cover if that thing was not needed, and is none now. */
        private void findLeastMissingOne(State state) {
            int steps = walk.begin(state);
            leastPrice = ABOVE_ALL_PRICES;
            Arrays.fill(leastMissingOne, ABOVE_ALL_PRICES);
            for (int step = 0; step < steps; step++) {
                walk.goTo(step);
                int missing = walk.missing();
                if (missing == 0) {
                    leastPrice = Math.min(leastPrice, walk.sum());
                } else if (Integer.bitCount(missing) == 1) {
                    noteMissingOne(Integer.numberOfTrailingZeros(missing), walk.sum());
                }
            }
        }

        private void noteMissingOne(int thing, int price) {
            if (thing < THINGS) {
                leastMissingOne[thing] = Math.min(leastMissingOne[thing], price);
            }
        }
    }
}
