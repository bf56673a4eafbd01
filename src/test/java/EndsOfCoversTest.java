/**
 * The ends that 'Shares', 'Rates' and promises 15 to 22 name: no sets, 14 sets, nothing to cover, ties, and arithmetic
 * at its ends. Each test tells its sentence. What is just not allowed stands in RefusedTest.
 */
final class EndsOfCoversTest {
    private static final int ALL = 262143;
    private static final int NONE = CoverShares.NONE;
    private static final String LETTERS = "abcdefghijklmnopqr";

    private EndsOfCoversTest() {
    }

    public static void main(String[] args) {
        sharesAreZeroAtFirst();
        openThings();
        onlyFreeSets();
        tightAtThePrice();
        roundsAsLongAsSomeIsOpen();
        thingsInAscendingOrder();
        notInATightSet();
        setsInAscendingOrder();
        notTightBefore();
        neverAboveThePrice();
        fromTheLastToTheFirst();
        droppedIfTheOthersHaveAll();
        sharedCoverAndBound();
        sharedAtItsEnds();
        greedyBeginsWithTheTaken();
        greedyLooksAtFreeSets();
        greedyCountsWhatIsMissing();
        greedyComparesExactly();
        greedyTies();
        greedyAtItsEnds();
        leastOfEqualPrices();
        leastAtItsEnds();
        coversOfAPriceAtMost();
        coversAtTheirEnds();
        tightCoversOfFreeSets();
        tightCoversAtTheirEnds();
        staysUpToAtItsEnds();
        staysIfOneOfSeveral();
        staysOfMarkedSets();
        staysIfThereIsNone();
        dearestLowestOfSeveral();
        dearestAtItsEnds();
        checkAtItsEnds();
        Due.end("EndsOfCoversTest");
    }

    private static CoverShares fourteen(int things, int price) {
        CoverShares x = new CoverShares();
        for (int set = 0; set < 14; set++) {
            x.set(things, price);
        }
        return x;
    }

    private static void shared(String sentence, CoverShares x, int... due) {
        for (int what = 0; what < due.length; what++) {
            Due.is("15: " + sentence + ": shared(" + what + ")", x.shared(what), due[what]);
        }
    }

    private static void greedy(String sentence, CoverShares x, int... due) {
        for (int what = 0; what < due.length; what++) {
            Due.is("16: " + sentence + ": greedy(" + what + ")", x.greedy(what), due[what]);
        }
    }

    private static void least(String sentence, CoverShares x, int sets, int price) {
        Due.is("17: " + sentence + ": least(0)", x.least(0), sets);
        Due.is("17: " + sentence + ": least(1)", x.least(1), price);
    }

    private static void dearest(String sentence, CoverShares x, int thing, int price) {
        Due.is("21: " + sentence + ": dearest(0)", x.dearest(0), thing);
        Due.is("21: " + sentence + ": dearest(1)", x.dearest(1), price);
    }

    /** "all shares are 0 at first": also when they are raised once more, and after a change. */
    private static void sharesAreZeroAtFirst() {
        CoverShares x = Due.made("ab", "a", 3, "ab", 9);
        for (int time = 0; time < 3; time++) {
            shared("once more", x, 2, 9, 9, 6, 2, 1);
        }
        x.price(1, 2);
        shared("lower prices", x, 2, 2, 2, 1, 1, 0);
        x.need(0);
        shared("nothing is needed", x, 0, 0, 0, 0, 0, 0);
        Due.is("15: the share of a thing that is not needed any more", x.ofThing(0, 2), 0);
    }

    /** "A thing is open if it is needed, and in no set that is TAKEN." */
    private static void openThings() {
        CoverShares x = Due.made("ab", "abc", 9, "b", 4);
        shared("c is not needed", x, 1, 9, 9, 5, 2, 1);
        x.mark(1, CoverShares.BARRED);
        shared("b is in a BARRED set", x, 1, 9, 9, 5, 1, 0);
        x.mark(1, CoverShares.TAKEN);
        shared("b is in a TAKEN set", x, 3, 13, 13, 9, 1, 0);
        Due.is("15: the share of b", x.ofThing(1, 2), 0);
        Due.is("15: the share of c", x.ofThing(2, 2), 0);
    }

    /** "Only sets that are FREE are looked at." */
    private static void onlyFreeSets() {
        CoverShares x = Due.made("a", "a", 1, "a", 5, "b", 1);
        x.mark(0, CoverShares.BARRED);
        x.mark(2, CoverShares.TAKEN);
        shared("a BARRED set of a lower price", x, 6, 6, 6, 5, 1, 0);
        Due.is("15: its filling", x.ofSet(0, 3), 0);
        Due.is("15: its place", x.ofSet(0, 5), NONE);
    }

    /** "it is tight if its filling is its price": 1 and 500, and one below it is not. */
    private static void tightAtThePrice() {
        for (int price : new int[] {1, 2, 499, 500}) {
            CoverShares x = Due.made("a", "a", price);
            shared("the price " + price, x, 1, price, price, price, 1, 0);
            Due.is("15: the filling", x.ofSet(0, 3), price);
        }
        shared("one below its price", Due.made("a", "a", 499, "a", 500), 1, 499, 499, 499, 1, 0);
    }

    /** "Rounds are made as long as some open thing is in no tight set": none, one, and until the last thing is in one. */
    private static void roundsAsLongAsSomeIsOpen() {
        CoverShares x = Due.made("abc", "a", 1, "b", 2, "c", 3);
        shared("until the last one", x, 7, 6, 6, 3, 3, 0);
        x.mark(2, CoverShares.TAKEN);
        shared("the last one is not open", x, 7, 6, 6, 2, 2, 0);
        x.mark(1, CoverShares.TAKEN);
        shared("one round", x, 7, 6, 6, 1, 1, 0);
        x.mark(0, CoverShares.TAKEN);
        shared("no round", x, 7, 6, 6, 0, 0, 0);
    }

    /** "for each open thing, in ascending order". */
    private static void thingsInAscendingOrder() {
        for (int first = 0; first < 17; first++) {
            CoverShares x = new CoverShares();
            x.need(3 << first);
            x.set(3 << first, 3);
            Due.is("15: the first one twice", x.ofThing(first, 2), 2);
            Due.is("15: the second one once", x.ofThing(first + 1, 2), 1);
            shared("two things", x, 1, 3, 3, 2, 1, 0);
        }
    }

    /** "that is in no tight set": also if it became tight in this round. */
    private static void notInATightSet() {
        CoverShares x = Due.made(LETTERS, LETTERS, 1);
        shared("the first thing alone", x, 1, 1, 1, 1, 1, 0);
        x.price(0, 17);
        shared("all but the last thing", x, 1, 17, 17, 1, 1, 0);
        Due.is("15: the last but one", x.ofThing(16, 2), 1);
        Due.is("15: the last", x.ofThing(17, 2), 0);
        x.price(0, 18);
        shared("just all", x, 1, 18, 18, 1, 1, 0);
        Due.is("15: the last then", x.ofThing(17, 2), 1);
        x.price(0, 19);
        shared("one more round", x, 1, 19, 19, 2, 1, 0);
    }

    /** "become tight, in ascending order": those of one thing by their numbers, those of a round by their things. */
    private static void setsInAscendingOrder() {
        CoverShares x = Due.made("ab", "b", 1, "a", 1, "a", 1);
        int[] places = {2, 0, 1};
        for (int set = 0; set < places.length; set++) {
            Due.is("15: the place of " + set, x.ofSet(set, 5), places[set]);
        }
        shared("the first of those at once stays", x, 3, 2, 2, 1, 3, 1);
    }

    /** "and that were not tight before": a set becomes tight once, though rounds go on. */
    private static void notTightBefore() {
        CoverShares x = Due.made("ab", "a", 1, "b", 500);
        shared("one in round 1, one in round 500", x, 3, 501, 501, 500, 2, 0);
        Due.is("15: the first place", x.ofSet(0, 5), 0);
        Due.is("15: the second place", x.ofSet(1, 5), 1);
    }

    /** "(So a filling is never above the price.)": not for one of 18 things, nor for things that many sets have. */
    private static void neverAboveThePrice() {
        for (int price = 1; price <= 40; price++) {
            CoverShares x = Due.made(LETTERS, LETTERS, price, "abc", 7, "cdefgh", 11, "r", 2, "qr", 3);
            for (int set = 0; set < 5; set++) {
                int filling = x.ofSet(set, 3);
                Due.is("15: a filling above the price", filling > x.ofSet(set, 1) ? 1 : 0, 0);
                Due.is("15: tight at the price", x.ofSet(set, 4), filling == x.ofSet(set, 1) ? 1 : 0);
            }
        }
    }

    /** "the tight sets are gone through from the one that became tight last to the first one". */
    private static void fromTheLastToTheFirst() {
        CoverShares x = fourteen(1, 3);
        x.need(1);
        shared("all but the first one go", x, 1, 3, 3, 3, 14, 13);
        x.price(0, 2);
        shared("the first one alone is tight", x, 1, 2, 2, 2, 1, 0);
        CoverShares order = Due.made("ab", "b", 1, "ab", 2, "a", 1);
        shared("the one that became tight last, not the last number", order, 5, 2, 2, 1, 3, 1);
        Due.is("15: set 1 came last", order.ofSet(1, 5), 2);
        Due.is("15: set 2 came first", order.ofSet(2, 5), 0);
    }

    /** "a set is dropped if each open thing is in some tight set that has not been dropped, without it". */
    private static void droppedIfTheOthersHaveAll() {
        CoverShares x = Due.made("abc", "a", 1, "b", 1, "c", 1, "abc", 3);
        shared("the last one goes, the others stay", x, 7, 3, 3, 1, 4, 1);
        x.mark(2, CoverShares.TAKEN);
        shared("c is not open", x, 7, 3, 3, 1, 2, 0);
        CoverShares one = Due.made("ab", "a", 1, "ab", 2);
        shared("the first one goes, the last one stays", one, 2, 2, 2, 1, 2, 1);
        CoverShares none = Due.made("ab", "a", 1, "b", 1);
        shared("none goes", none, 3, 2, 2, 1, 2, 0);
    }

    /** "The shared cover is the sets that are TAKEN and the tight sets that were not dropped", and the bound. */
    private static void sharedCoverAndBound() {
        CoverShares x = Due.made("ab", "a", 5, "a", 5, "c", 9, "b", 2);
        shared("no TAKEN set", x, 9, 7, 7, 5, 3, 1);
        x.mark(2, CoverShares.TAKEN);
        shared("a TAKEN set of no use", x, 13, 16, 16, 5, 3, 1);
        x.mark(3, CoverShares.TAKEN);
        shared("two TAKEN sets", x, 13, 16, 16, 5, 2, 1);
        x.need(0);
        shared("TAKEN sets, and nothing is needed", x, 12, 11, 11, 0, 0, 0);
    }

    /** No sets, sets that are all TAKEN or BARRED, and 14 sets at the greatest price. */
    private static void sharedAtItsEnds() {
        shared("a new object", new CoverShares(), 0, 0, 0, 0, 0, 0);
        CoverShares x = new CoverShares();
        for (int set = 0; set < 14; set++) {
            x.set(1 << set, 500);
        }
        x.need(16383);
        shared("14 things for 500 each", x, 16383, 7000, 7000, 500, 14, 0);
        for (int set = 0; set < 14; set++) {
            x.mark(set, CoverShares.TAKEN);
        }
        shared("14 TAKEN sets", x, 16383, 7000, 7000, 0, 0, 0);
        x.need(0);
        for (int set = 0; set < 14; set++) {
            x.mark(set, CoverShares.BARRED);
        }
        shared("14 BARRED sets, and nothing is needed", x, 0, 0, 0, 0, 0, 0);
        CoverShares all = fourteen(ALL, 500);
        all.need(ALL);
        shared("14 sets with all things", all, 1, 500, 500, 28, 14, 13);
    }

    /** "it begins with the sets that are TAKEN"; "2 the set that was added last (NONE if none was)". */
    private static void greedyBeginsWithTheTaken() {
        CoverShares x = Due.made("ab", "a", 500, "ab", 1, "b", 9);
        x.mark(0, CoverShares.TAKEN);
        greedy("a is there", x, 3, 501, 1);
        x.mark(2, CoverShares.TAKEN);
        greedy("all is there", x, 5, 509, NONE);
        x.mark(2, CoverShares.BARRED);
        x.mark(1, CoverShares.TAKEN);
        greedy("both TAKEN", x, 3, 501, NONE);
        x.need(0);
        greedy("nothing is needed", x, 3, 501, NONE);
        x.mark(0, CoverShares.FREE);
        x.mark(1, CoverShares.FREE);
        greedy("nothing is needed, and none TAKEN", x, 0, 0, NONE);
    }

    /** "the FREE set is added"; "(sets without such things are not looked at)". */
    private static void greedyLooksAtFreeSets() {
        CoverShares x = Due.made("a", "a", 1, "bcdefgh", 1, "a", 500);
        x.mark(0, CoverShares.BARRED);
        greedy("a BARRED set, and one without needed things", x, 4, 500, 2);
        CoverShares had = Due.made("abc", "ab", 2, "ab", 1, "c", 500);
        greedy("one whose things are in the sets so far", had, 6, 501, 2);
    }

    /** "the number of needed things that it has and that are in none of the sets so far". */
    private static void greedyCountsWhatIsMissing() {
        CoverShares x = Due.made("abcd", "abc", 3, "abcdefghijklmnopqr", 5, "d", 2);
        greedy("things that are not needed do not count", x, 5, 5, 2);
        x.need(Due.things("abcdef"));
        greedy("e and f count, too", x, 2, 5, 1);
        x.price(1, 7);
        greedy("7 / 6 is above 3 / 3", x, 7, 12, 1);
        CoverShares later = Due.made("abcd", "ab", 2, "bcd", 4, "cd", 3);
        greedy("b does not count again", later, 5, 5, 2);
    }

    /** "whose price, divided by the number ..., is least": the parts behind the point count, at the greatest numbers. */
    private static void greedyComparesExactly() {
        greedy("499 / 17 and 500 / 17", Due.made("abcdefghijklmnopq", "abcdefghijklmnopq", 500,
            "abcdefghijklmnopq", 499), 2, 499, 1);
        greedy("500 / 18 is below 28 / 1", Due.made(LETTERS, "a", 28, LETTERS, 500), 2, 500, 1);
        greedy("27 / 1 is below 500 / 18", Due.made(LETTERS, "a", 27, LETTERS, 500), 3, 527, 1);
        greedy("472 / 17 is below 500 / 18", Due.made(LETTERS, LETTERS, 500, "abcdefghijklmnopq", 472), 3, 972, 0);
        greedy("500 / 18 is below 473 / 17", Due.made(LETTERS, "abcdefghijklmnopq", 473, LETTERS, 500), 2, 500, 1);
        greedy("3 / 2 is below 2 / 1", Due.made("ab", "a", 2, "ab", 3), 2, 3, 1);
        greedy("1 / 1 is below 3 / 2", Due.made("ab", "ab", 3, "a", 1), 3, 4, 0);
    }

    /** "of several the one with the lowest number": also if the rates are made of other numbers. */
    private static void greedyTies() {
        greedy("250 / 9 ahead of 500 / 18", Due.made(LETTERS, "abcdefghi", 250, LETTERS, 500), 3, 750, 1);
        greedy("500 / 18 ahead of 250 / 9", Due.made(LETTERS, LETTERS, 500, "abcdefghi", 250), 1, 500, 0);
        CoverShares x = fourteen(ALL, 500);
        x.need(ALL);
        greedy("14 equal ones", x, 1, 500, 0);
        x.mark(0, CoverShares.BARRED);
        greedy("13 equal ones", x, 2, 500, 1);
    }

    /** No sets, one set, and 14 sets that are all added. */
    private static void greedyAtItsEnds() {
        greedy("a new object", new CoverShares(), 0, 0, NONE);
        greedy("the least price", Due.made("r", "r", 1), 1, 1, 0);
        CoverShares x = new CoverShares();
        for (int set = 0; set < 14; set++) {
            x.set(1 << set + 4, 500 - set);
        }
        x.need(16383 << 4);
        greedy("14 sets, the cheapest one first", x, 16383, 7000 - 91, 0);
    }

    /** "of several the one whose set of sets is the lowest mask". */
    private static void leastOfEqualPrices() {
        least("1 and 6", Due.made("ab", "ab", 3, "a", 1, "b", 2), 1, 3);
        least("4 and 3", Due.made("ab", "a", 1, "b", 2, "ab", 3), 3, 3);
        CoverShares x = fourteen(1, 500);
        x.need(1);
        least("14 equal ones", x, 1, 500);
        x.mark(0, CoverShares.BARRED);
        least("13 equal ones", x, 2, 500);
        x.mark(13, CoverShares.TAKEN);
        least("one TAKEN", x, 8192, 500);
        x.price(12, 499);
        x.mark(13, CoverShares.FREE);
        least("one below the others", x, 4096, 499);
    }

    /** No sets, nothing is needed, sets of no use, and all 14. */
    private static void leastAtItsEnds() {
        least("a new object", new CoverShares(), 0, 0);
        CoverShares x = fourteen(ALL, 500);
        least("nothing is needed", x, 0, 0);
        for (int set = 0; set < 14; set++) {
            x.mark(set, CoverShares.TAKEN);
        }
        least("14 TAKEN sets", x, 16383, 7000);
        x.need(ALL);
        least("14 TAKEN sets, and all is needed", x, 16383, 7000);
        least("the least price", Due.made("r", "q", 1, "r", 1), 2, 1);
    }

    /** "Counts the covers of a price at most": at it, one below and one above. */
    private static void coversOfAPriceAtMost() {
        CoverShares x = Due.made("a", "a", 500, "a", 499);
        int[] prices = {0, 498, 499, 500, 501, 998, 999, 1000, 7000};
        int[] due = {0, 0, 1, 2, 2, 2, 3, 3, 3};
        for (int at = 0; at < prices.length; at++) {
            Due.is("18: covers(" + prices[at] + ")", x.covers(prices[at]), due[at]);
        }
    }

    /** "price: 0 to 7000": no sets, no cover, one cover of 7000, and 16384 covers. */
    private static void coversAtTheirEnds() {
        CoverShares x = new CoverShares();
        Due.is("18: a new object, 0", x.covers(0), 1);
        Due.is("18: a new object, 7000", x.covers(7000), 1);
        x.need(1);
        Due.is("18: no cover, 0", x.covers(0), 0);
        Due.is("18: no cover, 7000", x.covers(7000), 0);
        CoverShares full = fourteen(1, 500);
        Due.is("18: nothing is needed, 0", full.covers(0), 1);
        Due.is("18: nothing is needed, 499", full.covers(499), 1);
        Due.is("18: nothing is needed, 6999", full.covers(6999), 16383);
        Due.is("18: nothing is needed, 7000", full.covers(7000), 16384);
        full.need(1);
        Due.is("18: at least one, 7000", full.covers(7000), 16383);
        for (int set = 0; set < 14; set++) {
            full.mark(set, CoverShares.TAKEN);
        }
        Due.is("18: all 14, 6999", full.covers(6999), 0);
        Due.is("18: all 14, 7000", full.covers(7000), 1);
        full.mark(0, CoverShares.BARRED);
        Due.is("18: 13, 6499", full.covers(6499), 0);
        Due.is("18: 13, 6500", full.covers(6500), 1);
    }

    /** "the covers from which no FREE set can be left out": a TAKEN one does not matter. */
    private static void tightCoversOfFreeSets() {
        CoverShares x = Due.made("a", "a", 1, "a", 1);
        Due.is("19: each of two", x.tightCovers(), 2);
        x.mark(0, CoverShares.TAKEN);
        Due.is("19: the FREE one can be left out", x.tightCovers(), 1);
        x.mark(1, CoverShares.TAKEN);
        Due.is("19: both are TAKEN", x.tightCovers(), 1);
        x.mark(1, CoverShares.BARRED);
        Due.is("19: one is BARRED", x.tightCovers(), 1);
        x.mark(0, CoverShares.FREE);
        Due.is("19: one FREE, one BARRED", x.tightCovers(), 1);
        x.mark(0, CoverShares.BARRED);
        Due.is("19: no cover", x.tightCovers(), 0);
    }

    /** No sets, nothing is needed, all 14, and the most covers of pairs. */
    private static void tightCoversAtTheirEnds() {
        Due.is("19: a new object", new CoverShares().tightCovers(), 1);
        CoverShares x = fourteen(ALL, 1);
        Due.is("19: nothing is needed", x.tightCovers(), 1);
        x.need(ALL);
        Due.is("19: each of 14", x.tightCovers(), 14);
        CoverShares pairs = new CoverShares();
        for (int set = 0; set < 14; set++) {
            pairs.set(1 << set / 2, 1 + set);
        }
        pairs.need(127);
        Due.is("19: one of each of 7 pairs", pairs.tightCovers(), 128);
        pairs.need(ALL);
        Due.is("19: things in no set", pairs.tightCovers(), 0);
    }

    /** "the greatest price, 1 to 500": 1, 499, 500, what would be above 500, and what would be 0. */
    private static void staysUpToAtItsEnds() {
        for (int price : new int[] {1, 2, 499, 500}) {
            Due.is("20: as one for " + price, Due.made("a", "a", 77, "a", price).staysUpTo(0), price);
        }
        Due.is("20: as two for 499", Due.made("ab", "ab", 500, "a", 498, "b", 1).staysUpTo(0), 499);
        Due.is("20: as two for 500", Due.made("ab", "ab", 1, "a", 499, "b", 1).staysUpTo(0), 500);
        Due.is("20: as two for 501", Due.made("ab", "ab", 1, "a", 500, "b", 1).staysUpTo(0), 500);
        Due.is("20: as two for 1000", Due.made("ab", "ab", 500, "a", 500, "b", 500).staysUpTo(0), 500);
        CoverShares x = Due.made("ab", "a", 500, "b", 9, "ab", 10);
        Due.is("20: 10 less 9", x.staysUpTo(0), 1);
        x.price(1, 10);
        Due.is("20: 10 less 10", x.staysUpTo(0), NONE);
        x.price(1, 11);
        Due.is("20: 10 less 11", x.staysUpTo(0), NONE);
        x.price(0, 1);
        Due.is("20: its own price does not matter", x.staysUpTo(0), NONE);
    }

    /** "(one of several is enough)": at the price itself there are two covers with the least price. */
    private static void staysIfOneOfSeveral() {
        CoverShares x = Due.made("a", "a", 5, "a", 5);
        Due.is("20: the first of two", x.staysUpTo(0), 5);
        Due.is("20: the second of two", x.staysUpTo(1), 5);
        x.price(0, x.staysUpTo(0));
        least("both are least", x, 1, 5);
        CoverShares full = fourteen(1, 123);
        full.need(1);
        Due.is("20: the first of 14", full.staysUpTo(0), 123);
        Due.is("20: the last of 14", full.staysUpTo(13), 123);
    }

    /** A TAKEN set is in each cover, a BARRED one in none. */
    private static void staysOfMarkedSets() {
        CoverShares x = Due.made("a", "a", 5, "a", 1, "b", 7);
        x.mark(2, CoverShares.TAKEN);
        Due.is("20: TAKEN, and of no use", x.staysUpTo(2), 500);
        Due.is("20: beside it", x.staysUpTo(0), 1);
        x.mark(0, CoverShares.TAKEN);
        Due.is("20: TAKEN, and dearer than another one", x.staysUpTo(0), 500);
        Due.is("20: what is of no use beside a TAKEN one", x.staysUpTo(1), NONE);
        x.mark(1, CoverShares.BARRED);
        Due.is("20: BARRED", x.staysUpTo(1), NONE);
        x.need(0);
        Due.is("20: TAKEN, and nothing is needed", x.staysUpTo(0), 500);
        Due.is("20: BARRED, and nothing is needed", x.staysUpTo(1), NONE);
    }

    /** "NONE if there is none": no cover with or without the set, and nothing that it is needed for. */
    private static void staysIfThereIsNone() {
        CoverShares x = Due.made("ab", "a", 1, "a", 1);
        Due.is("20: no cover", x.staysUpTo(0), NONE);
        x.mark(0, CoverShares.TAKEN);
        Due.is("20: no cover, and TAKEN", x.staysUpTo(0), NONE);
        x.need(2);
        x.mark(0, CoverShares.FREE);
        Due.is("20: no cover at all", x.staysUpTo(1), NONE);
        x.need(0);
        Due.is("20: nothing is needed", x.staysUpTo(0), NONE);
        x.need(1);
        x.mark(1, CoverShares.BARRED);
        Due.is("20: the only one", x.staysUpTo(0), 500);
    }

    /** "of several the lowest one". */
    private static void dearestLowestOfSeveral() {
        CoverShares x = Due.made("bcq", "b", 4, "c", 4, "q", 4);
        dearest("three equal ones", x, 1, 8);
        x.price(2, 5);
        dearest("the last one is dearer", x, 16, 8);
        x.price(0, 5);
        dearest("the first and the last one", x, 1, 9);
        CoverShares none = Due.made("hr", "hr", 9);
        dearest("none of them would help", none, 7, 9);
        none.mark(0, CoverShares.TAKEN);
        dearest("all are in a TAKEN set", none, 7, 9);
    }

    /** "NONE if no thing is needed"; the first and the last thing alone; 14 sets of 500. */
    private static void dearestAtItsEnds() {
        dearest("a new object", new CoverShares(), NONE, NONE);
        dearest("the first thing", Due.made("a", "a", 500), 0, 0);
        dearest("the last thing", Due.made("r", "r", 1), 17, 0);
        CoverShares x = new CoverShares();
        for (int set = 0; set < 14; set++) {
            x.set(1 << set + 4, 500);
        }
        dearest("no thing is needed", x, NONE, NONE);
        x.need(16383 << 4);
        dearest("14 sets of 500", x, 4, 6500);
        x.price(13, 499);
        x.price(0, 499);
        dearest("the first and the last one are cheaper", x, 5, 6498);
        x.need(ALL);
        dearest("no cover", x, CoverShares.NOT_POSSIBLE, CoverShares.NOT_POSSIBLE);
        CoverShares one = Due.made("ab", "b", 3);
        Due.is("21: no cover, though one thing less would make one", one.dearest(1), CoverShares.NOT_POSSIBLE);
    }

    /** "NO_SUCH if a set is not there, or sets is below 0": the highest mask that is there, and the next one. */
    private static void checkAtItsEnds() {
        CoverShares x = new CoverShares();
        for (int set = 0; set <= 14; set++) {
            Due.is("22: all of " + set, x.check((1 << set) - 1), set * 500);
            Due.is("22: one that is not there beside " + set, x.check(1 << set), CoverShares.NO_SUCH);
            Due.is("22: all of " + set + " and one that is not there", x.check((2 << set) - 1), CoverShares.NO_SUCH);
            Due.is("22: none", x.check(0), 0);
            x.set(1, 500);
        }
        Due.is("22: below 0", x.check(-1), CoverShares.NO_SUCH);
        Due.is("22: far below 0", x.check(Integer.MIN_VALUE), CoverShares.NO_SUCH);
        Due.is("22: far above", x.check(Integer.MAX_VALUE), CoverShares.NO_SUCH);
        x.need(2);
        Due.is("22: not there, and no cover", x.check(1 << 14), CoverShares.NO_SUCH);
        Due.is("22: there, and no cover", x.check(16383), NONE);
        x.need(0);
        x.mark(13, CoverShares.BARRED);
        Due.is("22: the highest one is BARRED", x.check(8192), NONE);
        Due.is("22: all but it", x.check(8191), 6500);
    }
}
