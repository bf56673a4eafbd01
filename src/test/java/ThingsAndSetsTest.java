/** Promises 1 to 7: a new object, need, set, price, mark, turn, drop. */
final class ThingsAndSetsTest {
    private static final int ALL = 262143;
    private static final int[] NO_SETS = {-1, 2, 3, 13, 14, 15, 32, Integer.MIN_VALUE, Integer.MAX_VALUE};

    private ThingsAndSetsTest() {
    }

    public static void main(String[] args) {
        newObject();
        need();
        set();
        price();
        mark();
        turn();
        drop();
        Due.end("ThingsAndSetsTest");
    }

    private static void newObject() {
        CoverShares x = new CoverShares();
        int[] counts = {0, 0, 1, 0, 0, 0};
        for (int what = 0; what < counts.length; what++) {
            Due.is("1: count(" + what + ")", x.count(what), counts[what]);
        }
        for (int thing = 0; thing < 18; thing++) {
            Due.is("1: ofThing(" + thing + ", 0)", x.ofThing(thing, 0), 0);
            Due.is("1: ofThing(" + thing + ", 1)", x.ofThing(thing, 1), 0);
            Due.is("1: ofThing(" + thing + ", 2)", x.ofThing(thing, 2), 0);
        }
        Due.is("1: ofSet(0, 0)", x.ofSet(0, 0), CoverShares.NO_SUCH);
        Due.is("1: undo()", x.undo(), CoverShares.NOT_POSSIBLE);
        Due.is("1: restore(0)", x.restore(0), CoverShares.NOT_POSSIBLE);
        Due.is("1: restore(1)", x.restore(1), CoverShares.NOT_POSSIBLE);
        CoverShares other = new CoverShares();
        x.set(1, 1);
        Due.is("1: count(0) of another object", other.count(0), 0);
    }

    private static void need() {
        CoverShares x = new CoverShares();
        Due.is("2: need(5)", x.need(5), 0);
        Due.is("2: need(all)", x.need(ALL), 5);
        Due.is("2: count(1)", x.count(1), ALL);
        Due.is("2: need(0)", x.need(0), ALL);
        Due.is("2: the same again", x.need(0), 0);
        Due.is("2: each is a change", x.count(5), 4);
        Due.is("2: count(1) then", x.count(1), 0);
        x.need(9);
        for (int bad : new int[] {-1, ALL + 1, Integer.MIN_VALUE, Integer.MAX_VALUE}) {
            Due.refused(x, "2: need(" + bad + ")", () -> x.need(bad), CoverShares.BAD_VALUE);
        }
    }

    private static void set() {
        CoverShares x = new CoverShares();
        Due.is("3: the first", x.set(1, 1), 0);
        Due.is("3: the second", x.set(ALL, 500), 1);
        Due.same("3: the sets", Due.sets(x), " needed 0 | 1 1 0 | 262143 500 0");
        Due.is("3: both are changes", x.count(5), 2);
        int[] badThings = {0, -1, ALL + 1, Integer.MIN_VALUE, Integer.MAX_VALUE};
        int[] badPrices = {0, -1, 501, Integer.MIN_VALUE, Integer.MAX_VALUE};
        for (int bad : badThings) {
            Due.refused(x, "3: set(" + bad + ", 1)", () -> x.set(bad, 1), CoverShares.BAD_VALUE);
        }
        for (int bad : badPrices) {
            Due.refused(x, "3: set(1, " + bad + ")", () -> x.set(1, bad), CoverShares.BAD_VALUE);
        }
        for (int number = 2; number < 14; number++) {
            Due.is("3: number " + number, x.set(number, number), number);
        }
        Due.refused(x, "3: a 15th set", () -> x.set(1, 1), CoverShares.TOO_MANY);
        Due.refused(x, "3: bad things first", () -> x.set(0, 1), CoverShares.BAD_VALUE);
        Due.refused(x, "3: a bad price first", () -> x.set(1, 501), CoverShares.BAD_VALUE);
        x.drop(3);
        Due.is("3: a 14th set again", x.set(7, 7), 13);
    }

    private static void price() {
        CoverShares x = Due.made("", "a", 3, "b", 4);
        Due.is("4: price(1, 500)", x.price(1, 500), 4);
        Due.is("4: price(1, 1)", x.price(1, 1), 500);
        Due.is("4: the same again", x.price(1, 1), 1);
        Due.is("4: each is a change", x.count(5), 6);
        Due.same("4: the sets", Due.sets(x), " needed 0 | 1 3 0 | 2 1 0");
        for (int no : NO_SETS) {
            Due.refused(x, "4: price(" + no + ", 1)", () -> x.price(no, 1), CoverShares.NO_SUCH);
            Due.refused(x, "4: no such set first", () -> x.price(no, 0), CoverShares.NO_SUCH);
        }
        for (int bad : new int[] {0, -1, 501, Integer.MIN_VALUE, Integer.MAX_VALUE}) {
            Due.refused(x, "4: price(1, " + bad + ")", () -> x.price(1, bad), CoverShares.BAD_VALUE);
        }
    }

    private static void mark() {
        CoverShares x = Due.made("", "a", 3, "b", 4);
        Due.is("5: mark(1, TAKEN)", x.mark(1, CoverShares.TAKEN), CoverShares.FREE);
        Due.is("5: mark(1, BARRED)", x.mark(1, CoverShares.BARRED), CoverShares.TAKEN);
        Due.is("5: mark(1, BARRED) again", x.mark(1, CoverShares.BARRED), CoverShares.BARRED);
        Due.same("5: the sets", Due.sets(x), " needed 0 | 1 3 0 | 2 4 2");
        Due.is("5: each is a change", x.count(5), 6);
        Due.is("5: undo()", x.undo(), 5);
        Due.is("5: undo()", x.undo(), 4);
        Due.is("5: mark(1, FREE)", x.mark(1, CoverShares.FREE), CoverShares.TAKEN);
        Due.is("5: FREE again", x.ofSet(1, 2), CoverShares.FREE);
        for (int no : NO_SETS) {
            Due.refused(x, "5: mark(" + no + ", 1)", () -> x.mark(no, 1), CoverShares.NO_SUCH);
            Due.refused(x, "5: no such set first", () -> x.mark(no, 3), CoverShares.NO_SUCH);
        }
        for (int bad : new int[] {-1, 3, Integer.MIN_VALUE, Integer.MAX_VALUE}) {
            Due.refused(x, "5: mark(1, " + bad + ")", () -> x.mark(1, bad), CoverShares.BAD_VALUE);
        }
    }

    private static void turn() {
        CoverShares x = Due.made("", "ab", 3, "c", 4);
        Due.is("6: b out, d in", x.turn(0, Due.things("bd")), Due.things("ad"));
        Due.is("6: all but two in", x.turn(0, ALL), ALL & ~Due.things("ad"));
        Due.is("6: two in", x.turn(0, Due.things("ad")), ALL);
        Due.is("6: each is a change", x.count(5), 6);
        Due.is("6: the other set", x.ofSet(1, 0), Due.things("c"));
        Due.is("6: the set", x.ofSet(0, 0), ALL);
        for (int no : NO_SETS) {
            Due.refused(x, "6: turn(" + no + ", 1)", () -> x.turn(no, 1), CoverShares.NO_SUCH);
            Due.refused(x, "6: no such set first", () -> x.turn(no, 0), CoverShares.NO_SUCH);
        }
        for (int bad : new int[] {0, -1, ALL + 1, Integer.MIN_VALUE, Integer.MAX_VALUE}) {
            Due.refused(x, "6: turn(0, " + bad + ")", () -> x.turn(0, bad), CoverShares.BAD_VALUE);
        }
        Due.refused(x, "6: no things", () -> x.turn(0, ALL), CoverShares.NOT_POSSIBLE);
        Due.refused(x, "6: no thing", () -> x.turn(1, Due.things("c")), CoverShares.NOT_POSSIBLE);
    }

    private static void drop() {
        CoverShares x = Due.made("c", "a", 1, "b", 2, "c", 3, "d", 4);
        x.mark(1, CoverShares.BARRED);
        x.mark(3, CoverShares.TAKEN);
        Due.is("7: drop(1)", x.drop(1), 3);
        Due.same("7: the sets", Due.sets(x), " needed 4 | 1 1 0 | 4 3 0 | 8 4 1");
        Due.is("7: the last", x.drop(2), 2);
        Due.same("7: the sets", Due.sets(x), " needed 4 | 1 1 0 | 4 3 0");
        for (int no : NO_SETS) {
            Due.refused(x, "7: drop(" + no + ")", () -> x.drop(no), CoverShares.NO_SUCH);
        }
        Due.is("7: a new set is FREE", x.set(1, 9) + 10 * x.ofSet(2, 2), 2);
        Due.is("7: the first", x.drop(0), 2);
        Due.is("7: the first", x.drop(0), 1);
        Due.is("7: the first", x.drop(0), 0);
        Due.is("7: each is a change", x.count(5), 6);
        Due.refused(x, "7: none is left", () -> x.drop(0), CoverShares.NO_SUCH);
        Due.is("7: undo()", x.undo(), 5);
        Due.same("7: the sets", Due.sets(x), " needed 4 | 1 9 0");
        CoverShares full = new CoverShares();
        for (int set = 0; set < 14; set++) {
            full.set(set + 1, set + 1);
        }
        Due.is("7: the first of 14", full.drop(0), 13);
        Due.is("7: the last one then", full.ofSet(12, 0), 14);
        Due.is("7: behind the last one", full.ofSet(13, 0), CoverShares.NO_SUCH);
    }
}
