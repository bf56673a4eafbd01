/** Promises 12 to 14: ofSet, ofThing, count. */
final class WhatThereIsTest {
    private static final int[] FAR = {Integer.MIN_VALUE, Integer.MAX_VALUE, -1};

    private WhatThereIsTest() {
    }

    public static void main(String[] args) {
        ofSetPlain();
        ofSetByShares();
        ofSetDropped();
        ofSetAlone();
        ofSetErrors();
        ofThing();
        ofThingErrors();
        count();
        Due.end("WhatThereIsTest");
    }

    private static void each(String call, CoverShares x, int what, int... due) {
        for (int set = 0; set < due.length; set++) {
            int number = set;
            Due.only(x, call + ", ofSet(" + set + ", " + what + ")", () -> x.ofSet(number, what), due[set]);
        }
    }

    private static void ofSetPlain() {
        CoverShares x = Due.made("a", "ab", 3, "r", 500);
        x.mark(1, CoverShares.BARRED);
        each("12", x, 0, 3, 1 << 17);
        each("12", x, 1, 3, 500);
        each("12", x, 2, CoverShares.FREE, CoverShares.BARRED);
    }

    private static void ofSetByShares() {
        CoverShares x = Due.made("abc", "ab", 3, "bc", 3, "c", 1, "abc", 7, "d", 1, "abc", 1, "c", 9);
        x.mark(5, CoverShares.BARRED);
        each("12: shares", x, 3, 3, 2, 1, 4, 0, 0, 1);
        each("12: shares", x, 4, 1, 0, 1, 0, 0, 0, 0);
        each("12: shares", x, 5, 1, -6, 0, -6, -6, -6, -6);
        each("12: shares", x, 6, 0, 0, 0, 0, 0, 0, 0);
        x.mark(6, CoverShares.TAKEN);
        each("12: c is not open", x, 3, 3, 1, 0, 3, 0, 0, 0);
        each("12: c is not open", x, 4, 1, 0, 0, 0, 0, 0, 0);
        each("12: c is not open", x, 5, 0, -6, -6, -6, -6, -6, -6);
    }

    private static void ofSetDropped() {
        CoverShares x = Due.made("ab", "a", 1, "ab", 3);
        each("12: dropped", x, 3, 1, 3);
        each("12: dropped", x, 4, 1, 1);
        each("12: dropped", x, 5, 0, 1);
        each("12: dropped", x, 6, 1, 0);
        CoverShares twice = Due.made("a", "a", 2, "a", 2, "a", 2, "a", 3);
        each("12: at once", twice, 3, 2, 2, 2, 2);
        each("12: at once", twice, 4, 1, 1, 1, 0);
        each("12: at once", twice, 5, 0, 1, 2, -6);
        each("12: at once", twice, 6, 0, 1, 1, 0);
    }

    private static void ofSetAlone() {
        CoverShares x = Due.made("abcd", "abe", 1, "bc", 1, "cd", 1, "dg", 1);
        each("12: alone", x, 7, Due.things("a"), 0, 0, 0);
        x.mark(1, CoverShares.BARRED);
        each("12: alone", x, 7, Due.things("ab"), 0, Due.things("c"), 0);
        x.mark(3, CoverShares.TAKEN);
        each("12: alone", x, 7, Due.things("ab"), 0, Due.things("c"), 0);
        x.mark(0, CoverShares.BARRED);
        each("12: alone without a cover", x, 7, 0, 0, Due.things("c"), 0);
        x.need(Due.things("e"));
        x.mark(0, CoverShares.TAKEN);
        each("12: alone and TAKEN", x, 7, Due.things("e"), 0, 0, 0);
    }

    private static void ofSetErrors() {
        CoverShares x = Due.made("a", "b", 1, "a", 2);
        for (int no : new int[] {-1, 2, 13, 14, 15, Integer.MIN_VALUE, Integer.MAX_VALUE}) {
            Due.refused(x, "12: ofSet(" + no + ", 0)", () -> x.ofSet(no, 0), CoverShares.NO_SUCH);
            Due.refused(x, "12: no such set first", () -> x.ofSet(no, 8), CoverShares.NO_SUCH);
        }
        x.mark(1, CoverShares.BARRED);
        for (int bad : FAR) {
            Due.refused(x, "12: ofSet(0, " + bad + ")", () -> x.ofSet(0, bad), CoverShares.BAD_VALUE);
        }
        Due.refused(x, "12: ofSet(0, 8)", () -> x.ofSet(0, 8), CoverShares.BAD_VALUE);
        int not = CoverShares.NOT_POSSIBLE;
        int[] due = {2, 1, CoverShares.FREE, not, not, not, not, 0};
        for (int what = 0; what < due.length; what++) {
            int number = what;
            Due.refused(x, "12: no cover, " + what, () -> x.ofSet(0, number), due[what]);
        }
        Due.refused(x, "12: no such set before no cover", () -> x.ofSet(2, 3), CoverShares.NO_SUCH);
    }

    private static void ofThing() {
        CoverShares x = Due.made("abcr", "ab", 3, "bc", 3, "c", 1, "rb", 2);
        x.mark(3, CoverShares.TAKEN);
        x.mark(x.set(Due.things("cd"), 1), CoverShares.BARRED);
        int[] needed = {1, 1, 1, 0, 0};
        int[] sets = {1, 11, 22, 16, 0};
        int[] shares = {3, 0, 1, 0, 0};
        for (int thing = 0; thing < needed.length; thing++) {
            int number = thing;
            Due.only(x, "13: ofThing(" + thing + ", 0)", () -> x.ofThing(number, 0), needed[thing]);
            Due.only(x, "13: ofThing(" + thing + ", 1)", () -> x.ofThing(number, 1), sets[thing]);
            Due.only(x, "13: ofThing(" + thing + ", 2)", () -> x.ofThing(number, 2), shares[thing]);
        }
        Due.is("13: the last thing", x.ofThing(17, 0), 1);
        Due.is("13: the sets of the last thing", x.ofThing(17, 1), 8);
        Due.is("13: it is not open", x.ofThing(17, 2), 0);
    }

    private static void ofThingErrors() {
        CoverShares x = Due.made("a", "b", 1);
        for (int no : new int[] {-1, 18, 31, 32, Integer.MIN_VALUE, Integer.MAX_VALUE}) {
            Due.refused(x, "13: ofThing(" + no + ", 0)", () -> x.ofThing(no, 0), CoverShares.NO_SUCH);
            Due.refused(x, "13: no such thing first", () -> x.ofThing(no, 3), CoverShares.NO_SUCH);
            Due.refused(x, "13: no such thing before no cover", () -> x.ofThing(no, 2), CoverShares.NO_SUCH);
        }
        for (int bad : FAR) {
            Due.refused(x, "13: ofThing(0, " + bad + ")", () -> x.ofThing(0, bad), CoverShares.BAD_VALUE);
        }
        Due.refused(x, "13: ofThing(0, 3)", () -> x.ofThing(0, 3), CoverShares.BAD_VALUE);
        Due.refused(x, "13: no cover", () -> x.ofThing(0, 2), CoverShares.NOT_POSSIBLE);
        Due.refused(x, "13: no cover, for a thing that is not needed", () -> x.ofThing(1, 2), CoverShares.NOT_POSSIBLE);
        Due.is("13: needed, without a cover", x.ofThing(0, 0), 1);
        Due.is("13: the sets, without a cover", x.ofThing(1, 1), 1);
    }

    private static void count() {
        CoverShares x = Due.made("ab", "ab", 3, "bc", 3, "bc", 1, "c", 2, "c", 2, "c", 2, "c", 2);
        x.put('a');
        int[] due = {7, 3, 1, 3, 1, 6};
        for (int what = 0; what < due.length; what++) {
            int number = what;
            Due.only(x, "14: count(" + what + ")", () -> x.count(number), due[what]);
        }
        x.mark(1, CoverShares.BARRED);
        Due.is("14: without a BARRED set", x.count(3), 2);
        x.mark(2, CoverShares.TAKEN);
        Due.is("14: with a TAKEN set", x.count(3), 2);
        Due.is("14: a cover", x.count(2), 1);
        x.mark(0, CoverShares.BARRED);
        Due.is("14: no cover", x.count(2), 0);
        Due.is("14: without two BARRED sets", x.count(3), 1);
        x.need(Due.things("r"));
        Due.is("14: a thing in no set", x.count(3), 0);
        x.need(0);
        Due.is("14: no thing is needed", x.count(3), 0);
        Due.is("14: a cover without sets", x.count(2), 1);
        Due.is("14: the first thing", Due.made("ab", "ab", 1, "a", 1).count(3), 2);
        Due.is("14: the last thing", Due.made("ar", "r", 1, "ar", 1).count(3), 2);
        Due.is("14: a thing that is not needed", Due.made("a", "ab", 1, "b", 1).count(3), 1);
        for (int bad : FAR) {
            Due.refused(x, "14: count(" + bad + ")", () -> x.count(bad), CoverShares.BAD_VALUE);
        }
        Due.refused(x, "14: count(6)", () -> x.count(6), CoverShares.BAD_VALUE);
    }
}
