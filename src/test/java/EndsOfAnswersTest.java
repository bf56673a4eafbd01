/**
 * The ends that promises 12 to 14 name, in the empty and the full object. Each test tells its sentence. What is just
 * not allowed stands in RefusedTest.
 */
final class EndsOfAnswersTest {
    private static final int ALL = 262143;
    private static final int NONE = CoverShares.NONE;
    private static final int NOT_POSSIBLE = CoverShares.NOT_POSSIBLE;

    private EndsOfAnswersTest() {
    }

    public static void main(String[] args) {
        thingsPricesAndMarks();
        fillingOfSetsThatAreNotFree();
        fillingAtItsEnds();
        tightOrNot();
        placesAmongTheTight();
        droppedOrNot();
        aloneOfAllSets();
        aloneIfItIsBarred();
        noCoverForThreeToSix();
        neededOrNot();
        setsThatHaveAThing();
        shareIfItIsNotOpen();
        noCoverForTwo();
        countOfSets();
        countOfNeededThings();
        countWhetherThereIsACover();
        countOfTheMostSets();
        countOfThePad();
        countOfChanges();
        Due.end("EndsOfAnswersTest");
    }

    private static void ofSets(String sentence, CoverShares x, int what, int... due) {
        for (int set = 0; set < due.length; set++) {
            Due.is(sentence + ": ofSet(" + set + ", " + what + ")", x.ofSet(set, what), due[set]);
        }
        Due.is(sentence + ": behind the last", x.ofSet(due.length, what), CoverShares.NO_SUCH);
    }

    /** Promise 12: "0 its things, 1 its price, 2 its mark": of the first and the last of 14, and at their ends. */
    private static void thingsPricesAndMarks() {
        CoverShares x = new CoverShares();
        for (int set = 0; set < 14; set++) {
            x.set(set == 13 ? ALL : 1 << set, set == 13 ? 500 : set + 1);
        }
        x.mark(0, CoverShares.BARRED);
        x.mark(13, CoverShares.TAKEN);
        ofSets("12", x, 0, 1, 2, 4, 8, 16, 32, 64, 128, 256, 512, 1024, 2048, 4096, ALL);
        ofSets("12", x, 1, 1, 2, 3, 4, 5, 6, 7, 8, 9, 10, 11, 12, 13, 500);
        ofSets("12", x, 2, 2, 0, 0, 0, 0, 0, 0, 0, 0, 0, 0, 0, 0, 1);
    }

    /** Promise 12: "3 its filling by the shares (0 if it is not FREE)". */
    private static void fillingOfSetsThatAreNotFree() {
        CoverShares x = Due.made("ab", "ab", 4, "ab", 4, "b", 3);
        ofSets("12: all FREE", x, 3, 4, 4, 2);
        x.mark(1, CoverShares.BARRED);
        ofSets("12: one BARRED", x, 3, 4, 0, 2);
        x.mark(2, CoverShares.TAKEN);
        ofSets("12: one TAKEN", x, 3, 4, 0, 0);
        x.mark(2, CoverShares.BARRED);
        ofSets("12: two BARRED", x, 3, 4, 0, 0);
    }

    /** Promise 12: a filling goes from 0 to the price, and never above it. */
    private static void fillingAtItsEnds() {
        ofSets("12: things that are not needed", Due.made("a", "a", 500, "bc", 1), 3, 500, 0);
        ofSets("12: 18 things", Due.made("abcdefghijklmnopqr", "abcdefghijklmnopqr", 500), 3, 500);
        ofSets("12: just below the price", Due.made("a", "a", 499, "a", 500), 3, 499, 499);
        ofSets("12: no thing is needed", Due.made("", "a", 1, "r", 500), 3, 0, 0);
        CoverShares one = Due.made("abcdefghijklmnopqr", "abcdefghijklmnopqr", 1);
        ofSets("12: the price 1", one, 3, 1);
        Due.is("12: the share of the first thing", one.ofThing(0, 2), 1);
        Due.is("12: the share of the second thing", one.ofThing(1, 2), 0);
    }

    /** Promise 12: "4 whether it is tight (1 or 0)": "it is tight if its filling is its price". */
    private static void tightOrNot() {
        ofSets("12: at the price, and one below it", Due.made("a", "a", 2, "a", 2, "a", 3), 4, 1, 1, 0);
        CoverShares x = Due.made("a", "a", 2, "b", 1, "a", 2);
        ofSets("12: nothing of it is needed", x, 4, 1, 0, 1);
        x.mark(0, CoverShares.TAKEN);
        ofSets("12: nothing is open", x, 4, 0, 0, 0);
        x.mark(0, CoverShares.BARRED);
        ofSets("12: a BARRED set is not tight", x, 4, 0, 0, 1);
    }

    /** Promise 12: "5 its place among the tight sets, in the order in which they became tight (NONE)". */
    private static void placesAmongTheTight() {
        ofSets("12: by their prices", Due.made("abc", "a", 3, "b", 2, "c", 1), 5, 2, 1, 0);
        ofSets("12: by their things within a round", Due.made("abc", "c", 1, "b", 1, "a", 1), 5, 2, 1, 0);
        ofSets("12: by their numbers at once", Due.made("a", "a", 1, "a", 2, "a", 1), 5, 0, NONE, 1);
        CoverShares x = new CoverShares();
        x.need(1);
        for (int set = 0; set < 14; set++) {
            x.set(1, 5);
        }
        ofSets("12: 14 at once", x, 5, 0, 1, 2, 3, 4, 5, 6, 7, 8, 9, 10, 11, 12, 13);
        x.mark(0, CoverShares.BARRED);
        ofSets("12: 13 at once", x, 5, NONE, 0, 1, 2, 3, 4, 5, 6, 7, 8, 9, 10, 11, 12);
        x.mark(13, CoverShares.TAKEN);
        ofSets("12: nothing is open", x, 5, NONE, NONE, NONE, NONE, NONE, NONE, NONE, NONE, NONE, NONE, NONE, NONE, NONE,
            NONE);
    }

    /** Promise 12: "6 whether it was dropped (1 or 0)": no set that was not tight was dropped. */
    private static void droppedOrNot() {
        CoverShares x = new CoverShares();
        x.need(1);
        for (int set = 0; set < 14; set++) {
            x.set(1, 5);
        }
        ofSets("12: all but the first", x, 6, 0, 1, 1, 1, 1, 1, 1, 1, 1, 1, 1, 1, 1, 1);
        x.price(0, 6);
        ofSets("12: all but the second, and the first was not tight", x, 6, 0, 0, 1, 1, 1, 1, 1, 1, 1, 1, 1, 1, 1, 1);
        x.mark(13, CoverShares.TAKEN);
        ofSets("12: none was tight", x, 6, 0, 0, 0, 0, 0, 0, 0, 0, 0, 0, 0, 0, 0, 0);
    }

    /** Promise 12: "7 the needed things that it has alone of all sets that are not BARRED". */
    private static void aloneOfAllSets() {
        CoverShares x = new CoverShares();
        x.set(ALL, 1);
        ofSets("12: nothing is needed", x, 7, 0);
        x.need(ALL);
        ofSets("12: the only set", x, 7, ALL);
        x.set(1 << 17, 1);
        ofSets("12: all but the last thing", x, 7, ALL >> 1, 0);
        x.set(1, 1);
        ofSets("12: all but the last and the first thing", x, 7, ALL >> 1 & ~1, 0, 0);
        x.need(1 | 1 << 17);
        ofSets("12: the needed ones are in two", x, 7, 0, 0, 0);
        x.mark(0, CoverShares.TAKEN);
        ofSets("12: TAKEN is not BARRED", x, 7, 0, 0, 0);
    }

    /** Promise 12: "(none, if it is BARRED)". */
    private static void aloneIfItIsBarred() {
        CoverShares x = new CoverShares();
        x.need(ALL);
        x.set(ALL, 1);
        x.set(6, 1);
        x.mark(0, CoverShares.BARRED);
        ofSets("12: beside a BARRED set, without a cover", x, 7, 0, 6);
        x.mark(1, CoverShares.BARRED);
        ofSets("12: both are BARRED", x, 7, 0, 0);
    }

    /** Promise 12: "NOT_POSSIBLE if there is no cover (for 3 to 6)": not for 0, 1, 2 and 7. */
    private static void noCoverForThreeToSix() {
        CoverShares x = Due.made("ab", "a", 5, "ac", 6);
        x.mark(0, CoverShares.TAKEN);
        int[][] due = {{1, 5}, {5, 6}, {1, 0}, {NOT_POSSIBLE, NOT_POSSIBLE}, {NOT_POSSIBLE, NOT_POSSIBLE},
            {NOT_POSSIBLE, NOT_POSSIBLE}, {NOT_POSSIBLE, NOT_POSSIBLE}, {0, 0}};
        for (int what = 0; what <= 7; what++) {
            ofSets("12: no cover", x, what, due[what]);
        }
        x.need(1);
        ofSets("12: a cover again", x, 3, 0, 0);
    }

    /** Promise 13: "0 whether it is needed (1 or 0)": of all 18, and without a cover. */
    private static void neededOrNot() {
        for (int needed = 0; needed < 18; needed++) {
            CoverShares x = new CoverShares();
            x.need(1 << needed);
            for (int thing = 0; thing < 18; thing++) {
                Due.is("13: whether " + thing + " is needed", x.ofThing(thing, 0), thing == needed ? 1 : 0);
            }
        }
    }

    /** Promise 13: "1 the sets that have it, as a set": none of them, all 14, and those that are BARRED, too. */
    private static void setsThatHaveAThing() {
        CoverShares x = new CoverShares();
        for (int set = 0; set < 14; set++) {
            Due.is("13: the sets with the last thing", x.ofThing(17, 1), (1 << set) - 1);
            Due.is("13: the sets with the first thing", x.ofThing(0, 1), 0);
            x.set(1 << 17, 1);
        }
        Due.is("13: all 14", x.ofThing(17, 1), 16383);
        x.mark(0, CoverShares.BARRED);
        x.mark(13, CoverShares.TAKEN);
        Due.is("13: marks do not matter", x.ofThing(17, 1), 16383);
        x.drop(13);
        Due.is("13: a set that is gone has no things", x.ofThing(17, 1), 8191);
    }

    /** Promise 13: "2 its share (0 if it is not open)": "if it is needed, and in no set that is TAKEN". */
    private static void shareIfItIsNotOpen() {
        CoverShares x = Due.made("abr", "abcr", 500, "b", 3);
        int[] due = {167, 167, 0, 166};
        int[] things = {0, 1, 2, 17};
        x.mark(1, CoverShares.BARRED);
        for (int at = 0; at < due.length; at++) {
            Due.is("13: the share of " + things[at], x.ofThing(things[at], 2), due[at]);
        }
        x.mark(1, CoverShares.TAKEN);
        Due.is("13: in a TAKEN set", x.ofThing(1, 2), 0);
        Due.is("13: in no TAKEN set", x.ofThing(0, 2), 250);
        x.mark(0, CoverShares.TAKEN);
        Due.is("13: now in one", x.ofThing(0, 2), 0);
        Due.is("13: the greatest share", Due.made("r", "r", 500).ofThing(17, 2), 500);
        Due.is("13: the least share", Due.made("r", "r", 1).ofThing(17, 2), 1);
    }

    /** Promise 13: "NOT_POSSIBLE if there is no cover (for 2)": not for 0 and 1; for each thing, needed or not. */
    private static void noCoverForTwo() {
        CoverShares x = Due.made("ar", "a", 5);
        for (int thing = 0; thing < 18; thing++) {
            Due.is("13: no cover, the share of " + thing, x.ofThing(thing, 2), NOT_POSSIBLE);
            Due.is("13: no cover, whether " + thing + " is needed", x.ofThing(thing, 0), thing == 0 || thing == 17 ? 1 : 0);
            Due.is("13: no cover, the sets with " + thing, x.ofThing(thing, 1), thing == 0 ? 1 : 0);
        }
    }

    /** Promise 14: "0 sets": from none to 14 and back. */
    private static void countOfSets() {
        CoverShares x = new CoverShares();
        for (int set = 0; set < 14; set++) {
            Due.is("14: sets", x.count(0), set);
            x.set(1, 1);
        }
        x.set(1, 1);
        Due.is("14: no more than 14 sets", x.count(0), 14);
        for (int left = 13; left >= 0; left--) {
            x.drop(0);
            Due.is("14: sets that are left", x.count(0), left);
        }
    }

    /** Promise 14: "1 the needed things, as a set": none, each alone, all. */
    private static void countOfNeededThings() {
        CoverShares x = new CoverShares();
        Due.is("14: none is needed", x.count(1), 0);
        for (int thing = 0; thing < 18; thing++) {
            x.need(1 << thing);
            Due.is("14: one is needed", x.count(1), 1 << thing);
        }
        x.need(ALL);
        Due.is("14: all are needed", x.count(1), ALL);
    }

    /** Promise 14: "2 whether there is a cover (1 or 0)". */
    private static void countWhetherThereIsACover() {
        for (int thing = 0; thing < 18; thing++) {
            CoverShares x = new CoverShares();
            x.need(1 << thing);
            Due.is("14: no set", x.count(2), 0);
            x.set(ALL & ~(1 << thing), 1);
            Due.is("14: all but the needed thing " + thing, x.count(2), 0);
            x.set(1 << thing, 500);
            Due.is("14: the needed thing " + thing, x.count(2), 1);
            x.need(ALL);
            Due.is("14: all things", x.count(2), 1);
        }
    }

    /** Promise 14: "3 the most sets that are not BARRED in which a needed thing is (0 if none is needed)". */
    private static void countOfTheMostSets() {
        CoverShares x = new CoverShares();
        Due.is("14: none is needed, and no set", x.count(3), 0);
        x.need(1 << 17);
        Due.is("14: in no set", x.count(3), 0);
        for (int set = 0; set < 14; set++) {
            x.set(1 << 17, 1);
            Due.is("14: in all sets", x.count(3), set + 1);
        }
        x.mark(0, CoverShares.BARRED);
        Due.is("14: the first is BARRED", x.count(3), 13);
        x.mark(13, CoverShares.BARRED);
        Due.is("14: the last is BARRED", x.count(3), 12);
        x.mark(13, CoverShares.TAKEN);
        Due.is("14: the last is TAKEN", x.count(3), 13);
        x.need(ALL >> 1);
        Due.is("14: the one that is in all is not needed", x.count(3), 0);
        x.turn(5, 1);
        Due.is("14: in one", x.count(3), 1);
        x.need(0);
        Due.is("14: none is needed", x.count(3), 0);
    }

    /** Promise 14: "4 the length of the pad": from 0 to 80. */
    private static void countOfThePad() {
        CoverShares x = new CoverShares();
        for (int length = 0; length < 80; length++) {
            Due.is("14: the length", x.count(4), length);
            x.put('a');
        }
        Due.is("14: the full pad", x.count(4), 80);
        x.put('a');
        Due.is("14: no more than 80", x.count(4), 80);
        x.wipe();
        Due.is("14: the empty pad", x.count(4), 0);
    }

    /** Promise 14: "5 how many changes can be undone": from 0 to 6 and back. */
    private static void countOfChanges() {
        CoverShares x = new CoverShares();
        for (int change = 0; change < 9; change++) {
            Due.is("14: changes", x.count(5), Math.min(6, change));
            x.need(change);
        }
        for (int left = 6; left > 0; left--) {
            Due.is("14: changes that are left", x.count(5), left);
            x.undo();
        }
        Due.is("14: none is left", x.count(5), 0);
        x.undo();
        Due.is("14: not below 0", x.count(5), 0);
    }
}
