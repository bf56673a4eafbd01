import java.util.List;
import java.util.function.ToIntFunction;

/**
 * CONVENTIONS, and promises 2 to 25: each call that is refused, in objects at the ends of what there can be. It names
 * the first error that applies, and it changes nothing: neither what the object shows nor its history, slots and text.
 */
final class RefusedTest {
    private static final int ALL = Kept.ALL;
    private static final int NO_SUCH = CoverShares.NO_SUCH;
    private static final int BAD_VALUE = CoverShares.BAD_VALUE;
    private static final int BAD_TEXT = CoverShares.BAD_TEXT;
    private static final int TOO_MANY = CoverShares.TOO_MANY;
    private static final int NOT_POSSIBLE = CoverShares.NOT_POSSIBLE;
    private static final int MIN = Integer.MIN_VALUE;
    private static final int MAX = Integer.MAX_VALUE;
    /** Just outside, far outside, and the numbers that a shift by 32 would wrap around to others. */
    private static final int[] BAD_SOME_THINGS = {0, -1, ALL + 1, -ALL, ALL + 2, 1 << 31, MAX};
    private static final int[] BAD_PRICES = {0, -1, 501, 500 + 65536, -500, MIN, MAX};
    private static final int[] BAD_MARKS = {-1, 3, 4, 256, MIN, MAX};
    private static final int[] BAD_SLOTS = {-1, 2, 3, 32, 256, MIN, MAX};

    private RefusedTest() {
    }

    private interface Call {
        int on(CoverShares x);
    }

    public static void main(String[] args) {
        for (String state : Kept.STATES) {
            need(state);
            set(state);
            price(state);
            mark(state);
            turn(state);
            drop(state);
            put(state);
            ofSet(state);
            ofThing(state);
            whats(state);
            pricesAndMasks(state);
            slots(state);
            answersChangeNothing(state);
        }
        setTooMany();
        turnToNothing();
        putTooMany();
        load();
        withoutCover();
        undo();
        restoreWhatWasNotSaved();
        noneIsNoError();
        dearestOfNothingChangesNothing();
        Due.end("RefusedTest");
    }

    private static void refused(String call, String state, Call made, int error) {
        for (int kind = 0; kind < Kept.LOOKS; kind++) {
            CoverShares x = Kept.made(state);
            Due.is(call + " in the state " + state, made.on(x), error);
            String due = Kept.look(Kept.made(state), kind);
            Due.same("after " + call + " in the state " + state + ", look " + kind, Kept.look(x, kind), due);
        }
    }

    private static int[] noSets(String state) {
        int size = Kept.made(state).count(0);
        return new int[] {-1, size, size + 1, 14, 31, 32, 32 + size - 1, 64, -32, MIN, MAX};
    }

    private static void need(String state) {
        for (int bad : new int[] {-1, ALL + 1, -ALL, MIN, MAX}) {
            refused("2: need(" + bad + ")", state, x -> x.need(bad), BAD_VALUE);
        }
    }

    /** BAD_VALUE is named ahead of TOO_MANY: two of the states have 14 sets. */
    private static void set(String state) {
        for (int bad : BAD_SOME_THINGS) {
            refused("3: set(" + bad + ", 1)", state, x -> x.set(bad, 1), BAD_VALUE);
            refused("3: set(" + bad + ", 501)", state, x -> x.set(bad, 501), BAD_VALUE);
        }
        for (int bad : BAD_PRICES) {
            refused("3: set(1, " + bad + ")", state, x -> x.set(1, bad), BAD_VALUE);
            refused("3: set(ALL, " + bad + ")", state, x -> x.set(ALL, bad), BAD_VALUE);
        }
    }

    private static void setTooMany() {
        for (String state : new String[] {"full", "faulty"}) {
            refused("3: set(1, 1)", state, x -> x.set(1, 1), TOO_MANY);
            refused("3: set(ALL, 500)", state, x -> x.set(ALL, 500), TOO_MANY);
        }
    }

    private static void price(String state) {
        for (int no : noSets(state)) {
            refused("4: price(" + no + ", 1)", state, x -> x.price(no, 1), NO_SUCH);
            refused("4: price(" + no + ", 0)", state, x -> x.price(no, 0), NO_SUCH);
            refused("4: price(" + no + ", 501)", state, x -> x.price(no, 501), NO_SUCH);
        }
        int last = Kept.made(state).count(0) - 1;
        for (int bad : BAD_PRICES) {
            refused("4: price(last, " + bad + ")", state, x -> x.price(last, bad), last < 0 ? NO_SUCH : BAD_VALUE);
        }
    }

    private static void mark(String state) {
        for (int no : noSets(state)) {
            refused("5: mark(" + no + ", 1)", state, x -> x.mark(no, 1), NO_SUCH);
            refused("5: mark(" + no + ", 3)", state, x -> x.mark(no, 3), NO_SUCH);
            refused("5: mark(" + no + ", -1)", state, x -> x.mark(no, -1), NO_SUCH);
        }
        int last = Kept.made(state).count(0) - 1;
        for (int bad : BAD_MARKS) {
            refused("5: mark(last, " + bad + ")", state, x -> x.mark(last, bad), last < 0 ? NO_SUCH : BAD_VALUE);
        }
    }

    private static void turn(String state) {
        for (int no : noSets(state)) {
            refused("6: turn(" + no + ", 1)", state, x -> x.turn(no, 1), NO_SUCH);
            refused("6: turn(" + no + ", 0)", state, x -> x.turn(no, 0), NO_SUCH);
            refused("6: turn(" + no + ", ALL + 1)", state, x -> x.turn(no, ALL + 1), NO_SUCH);
        }
        int last = Kept.made(state).count(0) - 1;
        for (int bad : BAD_SOME_THINGS) {
            refused("6: turn(last, " + bad + ")", state, x -> x.turn(last, bad), last < 0 ? NO_SUCH : BAD_VALUE);
        }
    }

    private static void turnToNothing() {
        for (String state : Kept.STATES) {
            CoverShares shown = Kept.made(state);
            for (int set = 0; set < shown.count(0); set++) {
                int number = set;
                int things = shown.ofSet(set, 0);
                refused("6: turn(" + set + ", all it has)", state, x -> x.turn(number, things), NOT_POSSIBLE);
                refused("6: not in range first, " + set, state, x -> x.turn(number, things | 1 << 18), BAD_VALUE);
            }
        }
    }

    private static void drop(String state) {
        for (int no : noSets(state)) {
            refused("7: drop(" + no + ")", state, x -> x.drop(no), NO_SUCH);
        }
    }

    /** BAD_VALUE is named ahead of TOO_MANY: one of the states has a full pad. */
    private static void put(String state) {
        long[] bad = {0, 32, 127, 128, 255, 256, 0x6100, 0x610061, 0x2061, 0x6120, 0x7F61, 0x617F, -1, Long.MIN_VALUE,
            Long.MAX_VALUE, 1L << 32, 1L << 62, 0x6161616161616120L, 0x2061616161616161L, 0xE161616161616161L};
        for (long characters : bad) {
            refused("8: put(" + Long.toHexString(characters) + ")", state, x -> x.put(characters), BAD_VALUE);
        }
    }

    private static void putTooMany() {
        refused("8: put of one sign", "full", x -> x.put('a'), TOO_MANY);
        refused("8: put of the lowest code", "full", x -> x.put(33), TOO_MANY);
        refused("8: put of eight signs", "full", x -> x.put(Due.packed("aaaaaaaa")), TOO_MANY);
    }

    private static void load() {
        refused("11: load() of an empty text", "new", CoverShares::load, BAD_TEXT);
        refused("11: load() of a text that ends too early", "uncovered", CoverShares::load, BAD_TEXT);
        refused("11: load() of too many", "full", CoverShares::load, TOO_MANY);
        refused("11: load() of a fault, and too many", "faulty", CoverShares::load, BAD_TEXT);
    }

    private static void ofSet(String state) {
        for (int no : noSets(state)) {
            for (int what : new int[] {0, 3, 5, 7, 8, -1}) {
                refused("12: ofSet(" + no + ", " + what + ")", state, x -> x.ofSet(no, what), NO_SUCH);
            }
        }
        int last = Kept.made(state).count(0) - 1;
        for (int bad : new int[] {-1, 8, 9, 32, MIN, MAX}) {
            refused("12: ofSet(last, " + bad + ")", state, x -> x.ofSet(last, bad), last < 0 ? NO_SUCH : BAD_VALUE);
        }
    }

    private static void ofThing(String state) {
        for (int no : new int[] {-1, 18, 19, 31, 32, 49, -32, MIN, MAX}) {
            for (int what : new int[] {0, 1, 2, 3, -1}) {
                refused("13: ofThing(" + no + ", " + what + ")", state, x -> x.ofThing(no, what), NO_SUCH);
            }
        }
        for (int bad : new int[] {-1, 3, 4, 32, MIN, MAX}) {
            refused("13: ofThing(0, " + bad + ")", state, x -> x.ofThing(0, bad), BAD_VALUE);
            refused("13: ofThing(17, " + bad + ")", state, x -> x.ofThing(17, bad), BAD_VALUE);
        }
    }

    /** BAD_VALUE is named ahead of NOT_POSSIBLE, and NONE is no error: the states are with and without covers. */
    private static void whats(String state) {
        for (int bad : new int[] {-1, 6, 7, 32, MIN, MAX}) {
            refused("14: count(" + bad + ")", state, x -> x.count(bad), BAD_VALUE);
            refused("15: shared(" + bad + ")", state, x -> x.shared(bad), BAD_VALUE);
        }
        for (int bad : new int[] {-1, 3, 4, 32, MIN, MAX}) {
            refused("16: greedy(" + bad + ")", state, x -> x.greedy(bad), BAD_VALUE);
        }
        for (int bad : new int[] {-1, 2, 3, 32, MIN, MAX}) {
            refused("17: least(" + bad + ")", state, x -> x.least(bad), BAD_VALUE);
            refused("21: dearest(" + bad + ")", state, x -> x.dearest(bad), BAD_VALUE);
        }
    }

    private static void pricesAndMasks(String state) {
        for (int bad : new int[] {-1, 7001, 7002, 7000 + 65536, MIN, MAX}) {
            refused("18: covers(" + bad + ")", state, x -> x.covers(bad), BAD_VALUE);
        }
        for (int no : noSets(state)) {
            refused("20: staysUpTo(" + no + ")", state, x -> x.staysUpTo(no), NO_SUCH);
        }
        int above = 1 << Kept.made(state).count(0);
        for (int no : new int[] {-1, above, 2 * above - 1, above + 1, 1 << 14, 1 << 18, 1 << 30, MIN, MIN + 1, MAX}) {
            refused("22: check(" + no + ")", state, x -> x.check(no), NO_SUCH);
        }
    }

    private static void withoutCover() {
        for (int what = 3; what <= 6; what++) {
            int number = what;
            refused("12: ofSet(0, " + what + ")", "uncovered", x -> x.ofSet(0, number), NOT_POSSIBLE);
            refused("12: ofSet(1, " + what + "), BARRED", "uncovered", x -> x.ofSet(1, number), NOT_POSSIBLE);
        }
        for (int thing = 0; thing < 18; thing++) {
            int number = thing;
            refused("13: ofThing(" + thing + ", 2)", "uncovered", x -> x.ofThing(number, 2), NOT_POSSIBLE);
        }
        for (int what = 0; what <= 5; what++) {
            int number = what;
            refused("15: shared(" + what + ")", "uncovered", x -> x.shared(number), NOT_POSSIBLE);
        }
        for (int what = 0; what <= 2; what++) {
            int number = what;
            refused("16: greedy(" + what + ")", "uncovered", x -> x.greedy(number), NOT_POSSIBLE);
        }
        for (int what = 0; what <= 1; what++) {
            int number = what;
            refused("17: least(" + what + ")", "uncovered", x -> x.least(number), NOT_POSSIBLE);
            refused("21: dearest(" + what + ")", "uncovered", x -> x.dearest(number), NOT_POSSIBLE);
        }
    }

    private static void undo() {
        refused("23: undo() of nothing", "new", CoverShares::undo, NOT_POSSIBLE);
        for (String state : Kept.STATES) {
            for (int kind = 0; kind < Kept.LOOKS; kind++) {
                CoverShares x = withoutHistory(state);
                Due.is("23: undo() after the last one, " + state, x.undo(), NOT_POSSIBLE);
                String due = Kept.look(withoutHistory(state), kind);
                Due.same("after that undo(), " + state + ", look " + kind, Kept.look(x, kind), due);
            }
        }
    }

    private static CoverShares withoutHistory(String state) {
        CoverShares x = Kept.made(state);
        for (int left = x.count(5); left > 0; left--) {
            x.undo();
        }
        return x;
    }

    private static void slots(String state) {
        for (int bad : BAD_SLOTS) {
            refused("24: save(" + bad + ")", state, x -> x.save(bad), BAD_VALUE);
            refused("25: restore(" + bad + ")", state, x -> x.restore(bad), BAD_VALUE);
        }
    }

    private static void restoreWhatWasNotSaved() {
        refused("25: restore(0)", "new", x -> x.restore(0), NOT_POSSIBLE);
        refused("25: restore(1)", "new", x -> x.restore(1), NOT_POSSIBLE);
        refused("25: restore(1), slot 0 alone is in use", "uncovered", x -> x.restore(1), NOT_POSSIBLE);
        refused("25: restore(0), slot 1 alone is in use", "idle", x -> x.restore(0), NOT_POSSIBLE);
    }

    /** "NONE (-6) is not an error; it is returned only if no error applies." */
    private static void noneIsNoError() {
        refused("10: fault()", "full", CoverShares::fault, CoverShares.NONE);
        refused("16: greedy(2)", "new", x -> x.greedy(2), CoverShares.NONE);
        refused("21: dearest(0)", "new", x -> x.dearest(0), CoverShares.NONE);
        refused("21: dearest(1)", "new", x -> x.dearest(1), CoverShares.NONE);
        refused("16: greedy(2)", "idle", x -> x.greedy(2), CoverShares.NONE);
        refused("21: dearest(0)", "idle", x -> x.dearest(0), CoverShares.NONE);
        refused("21: dearest(1)", "idle", x -> x.dearest(1), CoverShares.NONE);
        refused("20: staysUpTo(0)", "idle", x -> x.staysUpTo(0), CoverShares.NONE);
        refused("20: staysUpTo(0)", "uncovered", x -> x.staysUpTo(0), CoverShares.NONE);
        refused("20: staysUpTo(1), BARRED", "uncovered", x -> x.staysUpTo(1), CoverShares.NONE);
        refused("22: check(0)", "uncovered", x -> x.check(0), CoverShares.NONE);
        refused("22: check(3)", "uncovered", x -> x.check(3), CoverShares.NONE);
        CoverShares x = Due.made("a", "a", 2, "b", 1);
        Due.is("12: ofSet(1, 5), not tight", x.ofSet(1, 5), CoverShares.NONE);
        x.need(4);
        Due.is("12: ofSet(1, 5), no cover", x.ofSet(1, 5), NOT_POSSIBLE);
        Due.is("12: ofSet(2, 5), no such set", x.ofSet(2, 5), NO_SUCH);
    }

    /** "---- covers; nothing changes": each answer alone and then all of them, and nothing that is kept is another one. */
    private static void answersChangeNothing(String state) {
        List<ToIntFunction<CoverShares>> asks = Kept.asks();
        for (int number = 0; number < asks.size(); number++) {
            ToIntFunction<CoverShares> ask = asks.get(number);
            refused("the answer " + number, state, ask::applyAsInt, ask.applyAsInt(Kept.made(state)));
        }
        CoverShares x = Kept.made(state);
        for (int time = 0; time < 2; time++) {
            for (int number = 0; number < asks.size(); number++) {
                int due = asks.get(number).applyAsInt(Kept.made(state));
                Due.is("the answer " + number + " behind others in the state " + state, asks.get(number).applyAsInt(x), due);
            }
        }
    }

    /** The same where NONE is the answer, and both slots are in use. */
    private static void dearestOfNothingChangesNothing() {
        CoverShares x = Kept.made("small");
        CoverShares twin = Kept.made("small");
        x.need(0);
        twin.need(0);
        Due.is("21: dearest(0) of nothing", x.dearest(0), CoverShares.NONE);
        Due.same("21: the slots after it", Kept.look(x, Kept.SLOTS), Kept.look(twin, Kept.SLOTS));
    }
}
