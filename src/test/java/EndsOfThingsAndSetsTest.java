/**
 * The ends that 'Things and sets' and promises 1 to 7 name: what is just allowed, the empty and the full object. Each
 * test tells its sentence. What is just not allowed stands in RefusedTest.
 */
final class EndsOfThingsAndSetsTest {
    private static final int ALL = 262143;

    private EndsOfThingsAndSetsTest() {
    }

    public static void main(String[] args) {
        numberedFromZero();
        eighteenThings();
        noneIsNeededAtFirst();
        fourteenSets();
        numberedAsTheyCame();
        freeAtFirst();
        noneOfThemBarred();
        allThatAreTaken();
        eachNeededThing();
        priceTogether();
        thereIsACover();
        newObject();
        need();
        set();
        price();
        mark();
        turn();
        drop();
        dropOfTheEnds();
        lastCallThatIsPromised();
        Due.end("EndsOfThingsAndSetsTest");
    }

    private static CoverShares withSets(int many) {
        CoverShares x = new CoverShares();
        for (int set = 0; set < many; set++) {
            Due.is("set " + set + " of " + many, x.set(set + 1, set + 1), set);
        }
        return x;
    }

    /** "Everything is numbered from 0." */
    private static void numberedFromZero() {
        CoverShares x = new CoverShares();
        x.need(1);
        Due.is("the first thing", x.ofThing(0, 0), 1);
        Due.is("the second thing", x.ofThing(1, 0), 0);
        Due.is("the first set", x.set(1, 1), 0);
        Due.is("the set of the first set", x.ofThing(0, 1), 1);
        Due.is("the first tight set", x.ofSet(0, 5), 0);
        Due.is("the first slot", x.save(0), 1);
    }

    /** "There are 18 things, 0 to 17, written a to r". */
    private static void eighteenThings() {
        for (int thing = 0; thing < 18; thing++) {
            CoverShares x = new CoverShares();
            x.need(1 << thing);
            x.put(Due.packed((char) ('a' + thing) + "=7"));
            x.load();
            Due.is("the things of the letter of " + thing, x.ofSet(0, 0), 1 << thing);
            for (int other = 0; other < 18; other++) {
                Due.is("whether " + other + " is needed", x.ofThing(other, 0), other == thing ? 1 : 0);
                Due.is("the sets with " + other, x.ofThing(other, 1), other == thing ? 1 : 0);
                Due.is("the share of " + other, x.ofThing(other, 2), other == thing ? 7 : 0);
            }
        }
        Due.is("there is no thing 18", new CoverShares().ofThing(18, 0), CoverShares.NO_SUCH);
        Due.is("there is no letter s", Due.faultOf("s=1"), 0);
    }

    /** "each is needed or not (none is, at first)". */
    private static void noneIsNeededAtFirst() {
        CoverShares x = new CoverShares();
        Due.is("the needed things", x.count(1), 0);
        Due.is("none was needed", x.need(ALL), 0);
        for (int thing = 0; thing < 18; thing++) {
            Due.is("thing " + thing + " is needed", x.ofThing(thing, 0), 1);
        }
    }

    /** "There are up to 14 sets": by set, by load and by restore. */
    private static void fourteenSets() {
        CoverShares x = withSets(13);
        Due.is("the 14th", x.set(ALL, 500), 13);
        Due.is("14 sets", x.count(0), 14);
        Due.is("a 15th", x.set(ALL, 500), CoverShares.TOO_MANY);
        Due.is("14 are saved", x.save(0), 14);
        Due.is("13 are left", x.drop(5), 13);
        Due.is("14 are restored", x.restore(0), 14);
        Due.is("a 15th after restore", x.set(1, 1), CoverShares.TOO_MANY);
        Due.is("restore is undone", x.undo(), 5);
        Due.is("a 14th after undo", x.set(1, 1), 13);
        CoverShares loaded = new CoverShares();
        Due.write(loaded, "a=1;".repeat(13) + "b=1");
        Due.is("14 by load", loaded.load(), 14);
        Due.is("a 15th after load", loaded.set(1, 1), CoverShares.TOO_MANY);
    }

    /** "up to 14 sets, numbered in the order in which they came to be". */
    private static void numberedAsTheyCame() {
        CoverShares x = withSets(2);
        Due.write(x, "c=3;d=4");
        x.load();
        Due.is("behind the loaded ones", x.set(5, 5), 4);
        x.drop(0);
        Due.is("behind the later ones that came down", x.set(6, 6), 4);
        Due.same("the sets", Due.sets(x), " needed 0 | 2 2 0 | 4 3 0 | 8 4 0 | 5 5 0 | 6 6 0");
    }

    /** "a mark: FREE (0, at first)": also where a marked set of that number was before. */
    private static void freeAtFirst() {
        CoverShares x = withSets(14);
        for (int set = 0; set < 14; set++) {
            Due.is("the mark of set " + set, x.mark(set, 1 + set % 2), CoverShares.FREE);
        }
        x.drop(13);
        x.drop(12);
        Due.is("set 12 anew", x.set(3, 3), 12);
        Due.is("it is FREE", x.ofSet(12, 2), CoverShares.FREE);
        Due.write(x, "a=1");
        x.load();
        Due.is("a loaded one is FREE", x.ofSet(13, 2), CoverShares.FREE);
        x.drop(13);
        x.undo();
        Due.is("a set that undo brought back keeps its mark", x.mark(13, 2) + 10 * x.mark(13, 1), 20);
    }

    /** "A cover is a set of sets, none of them BARRED". */
    private static void noneOfThemBarred() {
        CoverShares x = Due.made("a", "a", 1, "a", 2, "b", 4);
        Due.is("all three FREE", x.check(7), 7);
        x.mark(2, CoverShares.BARRED);
        Due.is("one is BARRED, of no use", x.check(7), CoverShares.NONE);
        Due.is("without it", x.check(3), 3);
        Due.is("covers without it", x.covers(7000), 3);
        x.mark(0, CoverShares.BARRED);
        Due.is("the only BARRED ones", x.check(5), CoverShares.NONE);
    }

    /** "with all that are TAKEN": also if they are of no use, and also if no thing is needed. */
    private static void allThatAreTaken() {
        CoverShares x = Due.made("a", "a", 1, "b", 2, "c", 4);
        x.mark(1, CoverShares.TAKEN);
        Due.is("without the TAKEN set", x.check(1), CoverShares.NONE);
        Due.is("with it", x.check(3), 3);
        x.mark(2, CoverShares.TAKEN);
        Due.is("with one of two", x.check(3), CoverShares.NONE);
        Due.is("with both", x.check(7), 7);
        x.need(0);
        Due.is("nothing is needed: no set", x.check(0), CoverShares.NONE);
        Due.is("nothing is needed: both", x.check(6), 6);
        Due.is("nothing is needed: the least", x.least(0), 6);
    }

    /** "so that each needed thing is in one of them": all 18, and all but one. */
    private static void eachNeededThing() {
        for (int thing = 0; thing < 18; thing++) {
            CoverShares x = new CoverShares();
            x.need(ALL);
            x.set(ALL & ~(1 << thing), 3);
            x.set(1 << thing, 4);
            Due.is("all but " + thing, x.check(1), CoverShares.NONE);
            Due.is(thing + " alone", x.check(2), CoverShares.NONE);
            Due.is("all with " + thing, x.check(3), 7);
            x.need(ALL & ~(1 << thing));
            Due.is(thing + " is not needed", x.check(1), 3);
        }
    }

    /** "Its price is that of its sets together": from 0 to 14 times 500. */
    private static void priceTogether() {
        CoverShares x = new CoverShares();
        Due.is("no sets", x.check(0), 0);
        for (int set = 0; set < 14; set++) {
            x.set(1, 500);
        }
        Due.is("14 sets of 500", x.check(16383), 7000);
        Due.is("13 sets of 500", x.check(16382), 6500);
        Due.is("still no sets", x.check(0), 0);
    }

    /** "There is a cover if the sets that are not BARRED have all needed things." */
    private static void thereIsACover() {
        CoverShares x = new CoverShares();
        Due.is("no sets, and nothing is needed", x.count(2), 1);
        x.need(1);
        Due.is("no sets", x.count(2), 0);
        x.set(1, 1);
        Due.is("a FREE set", x.count(2), 1);
        x.mark(0, CoverShares.TAKEN);
        Due.is("a TAKEN set", x.count(2), 1);
        x.mark(0, CoverShares.BARRED);
        Due.is("a BARRED set", x.count(2), 0);
        x.need(0);
        Due.is("a BARRED set, and nothing is needed", x.count(2), 1);
        CoverShares all = Due.made("abcdefghijklmnopqr", "abcdefghi", 1, "jklmnopq", 2, "r", 3);
        Due.is("all things in three sets", all.count(2), 1);
        all.turn(2, Due.things("qr"));
        Due.is("all but the last thing", all.count(2), 0);
        all.turn(2, Due.things("r"));
        all.turn(0, Due.things("a"));
        Due.is("all but the first thing", all.count(2), 0);
    }

    /** Promise 1: "Creates it without sets; no thing is needed." The pad, the history and the slots are empty, too. */
    private static void newObject() {
        CoverShares x = new CoverShares();
        Due.same("a new object", Due.look(x), "0 0 1 0 0 0 fault 0 needed 0");
        Due.is("no set 0", x.ofSet(0, 0), CoverShares.NO_SUCH);
        Due.is("nothing to undo", x.undo(), CoverShares.NOT_POSSIBLE);
        Due.is("nothing in slot 0", x.restore(0), CoverShares.NOT_POSSIBLE);
        Due.is("nothing in slot 1", x.restore(1), CoverShares.NOT_POSSIBLE);
        Due.is("nothing in the pad", x.wipe(), 0);
        CoverShares used = Kept.made("full");
        Due.is("a used one beside it", used.count(0), 14);
        Due.same("a new object beside a used one", Due.look(new CoverShares()), "0 0 1 0 0 0 fault 0 needed 0");
    }

    /** Promise 2: "things: 0 to 262143"; "Returns the things that were needed before". */
    private static void need() {
        CoverShares x = new CoverShares();
        int[] allowed = {0, 1, ALL, ALL - 1, 1 << 17, 0, ALL, ALL};
        int before = 0;
        for (int things : allowed) {
            Due.is("2: need(" + things + ")", x.need(things), before);
            Due.is("2: needed after need(" + things + ")", x.count(1), things);
            before = things;
        }
    }

    /** Promise 3: "things: 1 to 262143", "price: 1 to 500"; "Returns its number". */
    private static void set() {
        CoverShares x = new CoverShares();
        int[] things = {1, 1, ALL, ALL, 2, ALL - 1};
        int[] prices = {1, 500, 1, 500, 2, 499};
        for (int set = 0; set < things.length; set++) {
            Due.is("3: the number", x.set(things[set], prices[set]), set);
            Due.is("3: the things", x.ofSet(set, 0), things[set]);
            Due.is("3: the price", x.ofSet(set, 1), prices[set]);
        }
    }

    /** Promise 4: "price: 1 to 500"; "Returns the price before": of the first and of the last set. */
    private static void price() {
        CoverShares x = withSets(14);
        for (int set : new int[] {0, 13}) {
            Due.is("4: to 500", x.price(set, 500), set + 1);
            Due.is("4: to 499", x.price(set, 499), 500);
            Due.is("4: to 1", x.price(set, 1), 499);
            Due.is("4: to 2", x.price(set, 2), 1);
            Due.is("4: to 2 again", x.price(set, 2), 2);
            Due.is("4: the price then", x.ofSet(set, 1), 2);
        }
        for (int set = 1; set < 13; set++) {
            Due.is("4: the price of set " + set, x.ofSet(set, 1), set + 1);
        }
    }

    /** Promise 5: "mark: FREE to BARRED"; "Returns the mark before": each mark after each other one. */
    private static void mark() {
        CoverShares x = withSets(14);
        for (int set : new int[] {0, 13}) {
            int before = CoverShares.FREE;
            for (int mark : new int[] {0, 1, 1, 2, 2, 0, 2, 1, 0}) {
                Due.is("5: mark(" + set + ", " + mark + ")", x.mark(set, mark), before);
                Due.is("5: the mark then", x.ofSet(set, 2), mark);
                before = mark;
            }
        }
    }

    /** Promise 6: "things: ... 1 to 262143"; "what is in the set comes out of it, what is not comes into it". */
    private static void turn() {
        CoverShares x = new CoverShares();
        x.set(1, 1);
        Due.is("6: all, of one thing", x.turn(0, ALL), ALL - 1);
        Due.is("6: the first thing comes", x.turn(0, 1), ALL);
        Due.is("6: all but the last go", x.turn(0, ALL >> 1), 1 << 17);
        Due.is("6: the last goes, all others come", x.turn(0, ALL), ALL >> 1);
        Due.is("6: all but the first go", x.turn(0, (ALL >> 1) - 1), 1);
        Due.is("6: the only thing cannot go", x.turn(0, 1), CoverShares.NOT_POSSIBLE);
        Due.is("6: another one comes for it", x.turn(0, 3), 2);
        Due.is("6: the things then", x.ofSet(0, 0), 2);
        Due.is("6: the 18 things of a set cannot go", Due.made("", "abcdefghijklmnopqr", 1).turn(0, ALL),
            CoverShares.NOT_POSSIBLE);
    }

    /** Promise 7: "the numbers of the later ones decrease by 1"; "Returns how many sets there are then". */
    private static void drop() {
        for (int gone = 0; gone < 14; gone++) {
            CoverShares x = withSets(14);
            for (int set = 0; set < 14; set++) {
                x.mark(set, set % 3);
            }
            Due.is("7: drop(" + gone + ")", x.drop(gone), 13);
            for (int set = 0; set < 13; set++) {
                int was = set < gone ? set : set + 1;
                Due.is("7: the things of set " + set, x.ofSet(set, 0), was + 1);
                Due.is("7: the price of set " + set, x.ofSet(set, 1), was + 1);
                Due.is("7: the mark of set " + set, x.ofSet(set, 2), was % 3);
            }
            Due.is("7: no set 13", x.ofSet(13, 0), CoverShares.NO_SUCH);
        }
    }

    /** Promise 7: the only set, and the last one again and again down to none. */
    private static void dropOfTheEnds() {
        CoverShares x = withSets(14);
        for (int left = 13; left >= 0; left--) {
            Due.is("7: the last one", x.drop(left), left);
        }
        Due.is("7: there is none", x.drop(0), CoverShares.NO_SUCH);
        Due.is("7: a first one anew", x.set(9, 9), 0);
        Due.is("7: the only one", x.drop(0), 0);
        Due.is("7: the sets with a thing", x.ofThing(0, 1), 0);
    }

    /** "An object is used for at most 512 calls": the last of them are as good as the first. */
    private static void lastCallThatIsPromised() {
        CoverShares x = new CoverShares();
        for (int call = 1; call <= 508; call++) {
            Due.is("call " + call, x.need(call), call - 1);
        }
        Due.is("call 509", x.set(ALL, 500), 0);
        Due.is("call 510", x.least(1), 500);
        Due.is("call 511", x.undo(), 5);
        Due.is("call 512", x.count(1), 508);
    }
}
