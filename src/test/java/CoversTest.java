/** Promises 15 to 22: shared, greedy, least, covers, tightCovers, staysUpTo, dearest, check. */
final class CoversTest {
    private static final int[] FAR = {Integer.MIN_VALUE, Integer.MAX_VALUE, -1};

    private CoversTest() {
    }

    public static void main(String[] args) {
        shared();
        sharedDrops();
        sharedRounds();
        greedy();
        greedyTies();
        least();
        covers();
        tightCovers();
        staysUpTo();
        dearest();
        check();
        withoutCover();
        fullSize();
        Due.end("CoversTest");
    }

    private static void answers(String call, CoverShares x, java.util.function.IntUnaryOperator made, int... due) {
        for (int what = 0; what < due.length; what++) {
            int number = what;
            Due.only(x, call + "(" + what + ")", () -> made.applyAsInt(number), due[what]);
        }
    }

    private static void badWhat(String call, CoverShares x, java.util.function.IntUnaryOperator made, int first) {
        for (int bad : FAR) {
            Due.refused(x, call + "(" + bad + ")", () -> made.applyAsInt(bad), CoverShares.BAD_VALUE);
        }
        Due.refused(x, call + "(" + first + ")", () -> made.applyAsInt(first), CoverShares.BAD_VALUE);
    }

    private static void shared() {
        CoverShares x = Due.made("abc", "ab", 3, "bc", 3, "c", 1, "abc", 7);
        answers("15: shared", x, x::shared, 5, 4, 4, 2, 2, 0);
        x.mark(1, CoverShares.TAKEN);
        answers("15: one TAKEN, shared", x, x::shared, 3, 6, 6, 3, 1, 0);
        x.mark(0, CoverShares.BARRED);
        answers("15: one BARRED, shared", x, x::shared, 10, 10, 10, 7, 1, 0);
        x.mark(3, CoverShares.TAKEN);
        answers("15: all TAKEN, shared", x, x::shared, 10, 10, 10, 0, 0, 0);
        badWhat("15: shared", x, x::shared, 6);
        CoverShares none = new CoverShares();
        answers("15: a new object, shared", none, none::shared, 0, 0, 0, 0, 0, 0);
    }

    private static void sharedDrops() {
        CoverShares x = Due.made("ab", "a", 1, "ab", 3);
        answers("15: dropped, shared", x, x::shared, 2, 3, 3, 2, 2, 1);
        CoverShares twice = Due.made("a", "a", 2, "a", 2, "a", 2, "a", 3);
        answers("15: in reverse, shared", twice, twice::shared, 1, 2, 2, 2, 3, 2);
        x.mark(1, CoverShares.BARRED);
        x.set(Due.things("b"), 2);
        answers("15: none dropped any more, shared", x, x::shared, 5, 3, 3, 2, 2, 0);
        // Round 1 fills a, b and c; in the middle of it {a, b} is tight, so that b is not raised.
        CoverShares middle = Due.made("abc", "ab", 1, "bc", 3, "c", 2);
        answers("15: tight within a round, shared", middle, middle::shared, 5, 3, 3, 2, 2, 0);
        Due.is("15: b is not raised", middle.ofThing(1, 2), 0);
    }

    private static void sharedRounds() {
        CoverShares x = Due.made("a", "a", 500);
        answers("15: many rounds, shared", x, x::shared, 1, 500, 500, 500, 1, 0);
        // One thing in both sets: it is shared, and the dearer set waits for the other thing alone.
        CoverShares late = Due.made("ab", "a", 1, "ab", 500);
        answers("15: a late set, shared", late, late::shared, 2, 500, 500, 499, 2, 1);
        CoverShares above = Due.made("abc", "ab", 2, "bc", 2, "ac", 2);
        answers("15: above the bound, shared", above, above::shared, 3, 4, 3, 1, 3, 1);
        Due.is("15: the share of c", above.ofThing(2, 2), 1);
    }

    private static void greedy() {
        CoverShares x = Due.made("abcd", "ab", 3, "abc", 4, "d", 2, "cd", 2, "abcd", 1);
        answers("16: one set, greedy", x, x::greedy, 16, 1, 4);
        x.mark(4, CoverShares.BARRED);
        answers("16: greedy", x, x::greedy, 9, 5, 0);
        x.mark(2, CoverShares.TAKEN);
        answers("16: one TAKEN, greedy", x, x::greedy, 6, 6, 1);
        x.mark(1, CoverShares.TAKEN);
        answers("16: all TAKEN, greedy", x, x::greedy, 6, 6, CoverShares.NONE);
        x.need(0);
        answers("16: nothing needed, greedy", x, x::greedy, 6, 6, CoverShares.NONE);
        badWhat("16: greedy", x, x::greedy, 3);
        CoverShares none = new CoverShares();
        answers("16: a new object, greedy", none, none::greedy, 0, 0, CoverShares.NONE);
    }

    private static void greedyTies() {
        CoverShares same = Due.made("ab", "b", 2, "ab", 4, "a", 2);
        answers("16: the lowest of equal rates, greedy", same, same::greedy, 5, 4, 2);
        CoverShares thirds = Due.made("abc", "abc", 3, "ab", 2, "c", 1);
        answers("16: equal rates of other prices, greedy", thirds, thirds::greedy, 1, 3, 0);
        CoverShares parts = Due.made("abc", "ab", 3, "c", 1);
        answers("16: rates are not rounded, greedy", parts, parts::greedy, 3, 4, 0);
        // After c and d the set 0 has just a and b alone that are missing.
        CoverShares gained = Due.made("abcd", "abcd", 5, "cd", 1, "ab", 4);
        answers("16: only what is missing counts, greedy", gained, gained::greedy, 6, 5, 2);
        CoverShares useless = Due.made("a", "bcdef", 1, "ab", 500);
        answers("16: things that are not needed, greedy", useless, useless::greedy, 2, 500, 1);
        CoverShares dear = Due.made("abc", "ab", 499, "abc", 500);
        answers("16: the greatest prices, greedy", dear, dear::greedy, 2, 500, 1);
    }

    private static void least() {
        CoverShares x = Due.made("abc", "ab", 3, "bc", 3, "c", 1, "abc", 4, "a", 1);
        answers("17: the lowest of two masks, least", x, x::least, 5, 4);
        x.price(2, 2);
        answers("17: another one, least", x, x::least, 8, 4);
        x.mark(1, CoverShares.TAKEN);
        answers("17: one TAKEN, least", x, x::least, 18, 4);
        x.mark(4, CoverShares.BARRED);
        answers("17: one BARRED, least", x, x::least, 3, 6);
        x.mark(4, CoverShares.TAKEN);
        x.mark(2, CoverShares.TAKEN);
        answers("17: three TAKEN, least", x, x::least, 22, 6);
        badWhat("17: least", x, x::least, 2);
        CoverShares same = Due.made("a", "b", 1, "a", 2, "a", 2);
        answers("17: the lower of two, least", same, same::least, 2, 2);
        CoverShares none = new CoverShares();
        answers("17: a new object, least", none, none::least, 0, 0);
    }

    private static void covers() {
        CoverShares x = Due.made("ab", "a", 1, "b", 2, "ab", 4);
        int[] due = {0, 0, 0, 1, 2, 3, 4, 5};
        answers("18: covers", x, x::covers, due);
        Due.is("18: covers(7000)", x.covers(7000), 5);
        x.mark(0, CoverShares.TAKEN);
        answers("18: one TAKEN, covers", x, x::covers, 0, 0, 0, 1, 1, 2, 2, 3);
        x.mark(2, CoverShares.BARRED);
        answers("18: one BARRED, covers", x, x::covers, 0, 0, 0, 1, 1);
        x.mark(1, CoverShares.BARRED);
        Due.is("18: no cover", x.covers(7000), 0);
        x.need(0);
        answers("18: nothing needed, one TAKEN, covers", x, x::covers, 0, 1);
        badWhat("18: covers", x, x::covers, 7001);
        CoverShares none = new CoverShares();
        Due.is("18: a new object", none.covers(0), 1);
        Due.is("18: a new object", none.covers(7000), 1);
    }

    private static void tightCovers() {
        CoverShares x = Due.made("ab", "a", 1, "b", 2, "ab", 4, "c", 1);
        Due.only(x, "19: tightCovers()", x::tightCovers, 2);
        x.mark(2, CoverShares.TAKEN);
        Due.only(x, "19: one TAKEN", x::tightCovers, 1);
        x.mark(2, CoverShares.FREE);
        x.mark(0, CoverShares.TAKEN);
        Due.only(x, "19: a TAKEN set may be left out", x::tightCovers, 2);
        x.mark(1, CoverShares.BARRED);
        Due.only(x, "19: one BARRED", x::tightCovers, 1);
        x.mark(2, CoverShares.BARRED);
        Due.only(x, "19: no cover", x::tightCovers, 0);
        x.need(0);
        Due.only(x, "19: nothing needed", x::tightCovers, 1);
        CoverShares ring = Due.made("abc", "ab", 1, "bc", 1, "ac", 1);
        Due.only(ring, "19: each two of three", ring::tightCovers, 3);
        ring.mark(1, CoverShares.TAKEN);
        Due.only(ring, "19: one of three TAKEN", ring::tightCovers, 2);
        Due.is("19: a new object", new CoverShares().tightCovers(), 1);
    }

    private static void staysUpTo() {
        CoverShares x = Due.made("abc", "ab", 3, "bc", 3, "c", 1, "abc", 5, "d", 1, "abc", 1);
        x.mark(5, CoverShares.BARRED);
        answers("20: staysUpTo", x, x::staysUpTo, 4, 1, 2, 4, CoverShares.NONE, CoverShares.NONE);
        x.price(0, 500);
        Due.only(x, "20: its own price does not matter", () -> x.staysUpTo(0), 4);
        x.mark(0, CoverShares.TAKEN);
        Due.only(x, "20: a TAKEN set", () -> x.staysUpTo(0), 500);
        Due.only(x, "20: beside a TAKEN set", () -> x.staysUpTo(2), 3);
        x.need(Due.things("abcd"));
        Due.only(x, "20: the only one with d", () -> x.staysUpTo(4), 500);
        x.need(Due.things("r"));
        for (int set = 0; set < 6; set++) {
            int number = set;
            Due.only(x, "20: no cover, set " + set, () -> x.staysUpTo(number), CoverShares.NONE);
        }
        CoverShares far = Due.made("a", "a", 1, "ab", 400, "a", 500);
        far.need(Due.things("ab"));
        Due.is("20: all prices to 500", far.staysUpTo(1), 500);
        Due.is("20: never, beside a set that is needed", far.staysUpTo(0), CoverShares.NONE);
        CoverShares one = Due.made("ab", "a", 2, "ab", 3, "b", 2);
        Due.is("20: just 1", one.staysUpTo(0), 1);
        one.price(2, 3);
        Due.is("20: it would have to be free", one.staysUpTo(0), CoverShares.NONE);
        Due.is("20: no more than 500", Due.made("ab", "a", 400, "b", 400, "ab", 1).staysUpTo(2), 500);
        one.need(0);
        Due.is("20: nothing is needed", one.staysUpTo(1), CoverShares.NONE);
        one.mark(1, CoverShares.TAKEN);
        Due.is("20: nothing is needed, a TAKEN set", one.staysUpTo(1), 500);
        for (int no : new int[] {-1, 6, 13, 14, 32, Integer.MIN_VALUE, Integer.MAX_VALUE}) {
            Due.refused(x, "20: staysUpTo(" + no + ")", () -> x.staysUpTo(no), CoverShares.NO_SUCH);
        }
    }

    private static void dearest() {
        CoverShares x = Due.made("abc", "a", 2, "b", 5, "c", 4, "bc", 8);
        answers("21: dearest", x, x::dearest, 1, 6);
        x.price(2, 5);
        answers("21: the lowest of two, dearest", x, x::dearest, 1, 7);
        x.mark(1, CoverShares.TAKEN);
        answers("21: one TAKEN, dearest", x, x::dearest, 2, 7);
        x.mark(3, CoverShares.TAKEN);
        answers("21: b and c in TAKEN sets, dearest", x, x::dearest, 0, 13);
        x.mark(0, CoverShares.TAKEN);
        answers("21: nothing would help, dearest", x, x::dearest, 0, 15);
        x.need(Due.things("c"));
        answers("21: one thing, dearest", x, x::dearest, 2, 15);
        badWhat("21: dearest", x, x::dearest, 2);
        x.need(0);
        answers("21: no thing, dearest", x, x::dearest, CoverShares.NONE, CoverShares.NONE);
        Due.refused(x, "21: a bad value before that", () -> x.dearest(2), CoverShares.BAD_VALUE);
        CoverShares last = Due.made("qr", "q", 1, "r", 2);
        answers("21: the last thing, dearest", last, last::dearest, 17, 1);
    }

    private static void check() {
        CoverShares x = Due.made("ab", "a", 1, "b", 2, "ab", 4, "c", 8);
        int no = CoverShares.NONE;
        answers("22: check", x, x::check, no, no, no, 3, 4, 5, 6, 7, no, no, no, 11, 12, 13, 14, 15);
        x.mark(0, CoverShares.TAKEN);
        x.mark(3, CoverShares.BARRED);
        answers("22: marked, check", x, x::check, no, no, no, 3, no, 5, no, 7, no, no, no, no, no, no, no, no);
        for (int bad : new int[] {-1, 16, 17, 19, 1 << 14, 1 << 30, Integer.MIN_VALUE, Integer.MAX_VALUE}) {
            Due.refused(x, "22: check(" + bad + ")", () -> x.check(bad), CoverShares.NO_SUCH);
        }
        CoverShares none = new CoverShares();
        Due.only(none, "22: a new object", () -> none.check(0), 0);
        Due.refused(none, "22: a new object", () -> none.check(1), CoverShares.NO_SUCH);
        none.need(1);
        Due.only(none, "22: a needed thing", () -> none.check(0), CoverShares.NONE);
    }

    private static void withoutCover() {
        CoverShares x = Due.made("ab", "a", 1, "b", 2);
        x.mark(1, CoverShares.BARRED);
        int[] firstBad = {6, 3, 2, 2};
        for (int kind = 0; kind < firstBad.length; kind++) {
            for (int what = 0; what <= firstBad[kind]; what++) {
                int due = what < firstBad[kind] ? CoverShares.NOT_POSSIBLE : CoverShares.BAD_VALUE;
                int asked = kind;
                int number = what;
                Due.refused(x, "15, 16, 17, 21: no cover, " + kind + ", " + what, () -> ask(x, asked, number), due);
            }
        }
    }

    private static int ask(CoverShares x, int kind, int what) {
        switch (kind) {
            case 0:
                return x.shared(what);
            case 1:
                return x.greedy(what);
            case 2:
                return x.least(what);
            default:
                return x.dearest(what);
        }
    }

    /** 14 sets of one thing each, and things that two sets have. */
    private static void fullSize() {
        CoverShares x = new CoverShares();
        for (int set = 0; set < 14; set++) {
            x.set(1 << set, 500);
        }
        x.need((1 << 14) - 1);
        answers("15: 14 sets, shared", x, x::shared, 16383, 7000, 7000, 500, 14, 0);
        answers("16: 14 sets, greedy", x, x::greedy, 16383, 7000, 13);
        answers("17: 14 sets, least", x, x::least, 16383, 7000);
        Due.is("18: 14 sets", x.covers(7000), 1);
        Due.is("18: 14 sets", x.covers(6999), 0);
        Due.is("19: 14 sets", x.tightCovers(), 1);
        Due.is("20: 14 sets", x.staysUpTo(13), 500);
        answers("21: 14 sets, dearest", x, x::dearest, 0, 6500);
        Due.is("22: 14 sets", x.check(16383), 7000);
        Due.is("22: 14 sets", x.check(16384), CoverShares.NO_SUCH);
        x.need(0);
        Due.is("18: 14 sets, all sets of sets", x.covers(7000), 16384);
        Due.is("18: 14 sets, none or one", x.covers(500), 15);
        Due.is("19: 14 sets, the empty one", x.tightCovers(), 1);
        x.need(1 << 13);
        answers("17: 14 sets, the last, least", x, x::least, 8192, 500);
        x.mark(0, CoverShares.TAKEN);
        x.mark(13, CoverShares.TAKEN);
        answers("17: 14 sets, two TAKEN, least", x, x::least, 8193, 1000);
        Due.is("18: 14 sets, two TAKEN", x.covers(7000), 4096);
    }
}
