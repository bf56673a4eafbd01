/**
 * The ends that promises 23 to 25 name: the empty and the full history, and slots that are empty, in use and written
 * over. Each test tells its sentence. What is just not allowed stands in RefusedTest.
 */
final class EndsOfUndoSavingTest {
    private static final int ALL = 262143;

    private EndsOfUndoSavingTest() {
    }

    private interface Change {
        int on(CoverShares x);
    }

    public static void main(String[] args) {
        sixStates();
        oldestIsDropped();
        nothingIsDifferent();
        noChanges();
        thingsAndSetsAsBefore();
        undoIsNoChange();
        noneIsLeft();
        undoOfFullAndEmpty();
        padAndSlotsStay();
        eachSlotAlone();
        writtenOver();
        emptyAndFullAreSaved();
        slotIsKept();
        restoreIsAChange();
        savedLast();
        Due.end("EndsOfUndoSavingTest");
    }

    /** Seven changes of seven kinds, each of which can be made on what the ones before it left. */
    private static Change[] changes() {
        return new Change[] {x -> x.need(3), x -> x.set(7, 7), x -> x.price(0, 8), x -> x.mark(0, 1), x -> x.turn(0, 8),
            EndsOfUndoSavingTest::loadTwo, x -> x.drop(1), x -> x.restore(0)};
    }

    private static int loadTwo(CoverShares x) {
        Due.write(x, "a=1;b=2");
        return x.load();
    }

    private static CoverShares withSlot() {
        CoverShares x = new CoverShares();
        x.set(ALL, 500);
        x.save(0);
        x.undo();
        return x;
    }

    /** "A history of at most 6 states is kept: each method that is a change ... records the state before it". */
    private static void sixStates() {
        CoverShares x = withSlot();
        Change[] changes = changes();
        for (int change = 0; change < changes.length; change++) {
            Due.is("23: what can be undone before change " + change, x.count(5), Math.min(6, change));
            Due.is("23: change " + change + " is made", changes[change].on(x) >= 0 ? 1 : 0, 1);
            Due.is("23: what can be undone after it", x.count(5), Math.min(6, change + 1));
        }
    }

    /** "when one more is recorded, the oldest one is dropped": each kind of change is the seventh one once. */
    private static void oldestIsDropped() {
        Change[] changes = changes();
        for (int last = 0; last < changes.length; last++) {
            CoverShares x = withSlot();
            x.set(5, 5);
            x.set(6, 6);
            x.undo();
            x.undo();
            x.set(1, 101);
            x.set(2, 102);
            for (int price = 11; price <= 14; price++) {
                x.price(1, price);
            }
            String before = Due.sets(x);
            Due.is("23: six can be undone", x.count(5), 6);
            Due.is("23: the seventh, " + last, changes[last].on(x) >= 0 ? 1 : 0, 1);
            Due.is("23: no more than six, " + last, x.count(5), 6);
            Due.is("23: it is undone, " + last, x.undo(), 5);
            Due.same("23: as before it, " + last, Due.sets(x), before);
            for (int left = 4; left >= 0; left--) {
                Due.is("23: undo()", x.undo(), left);
            }
            Due.same("23: the oldest one that was kept, " + last, Due.sets(x), " needed 0 | 1 101 0");
            Due.is("23: the one before it was dropped", x.undo(), CoverShares.NOT_POSSIBLE);
        }
    }

    /** "(also if nothing is different then)". */
    private static void nothingIsDifferent() {
        CoverShares x = Due.made("", "a", 1);
        x.save(1);
        x.undo();
        x.undo();
        Due.is("23: need of the same", x.need(0), 0);
        Due.is("23: it is recorded", x.count(5), 1);
        x.restore(1);
        Due.is("23: price of the same", x.price(0, 1), 1);
        Due.is("23: it is recorded", x.count(5), 3);
        Due.is("23: mark of the same", x.mark(0, 0), 0);
        Due.is("23: it is recorded", x.count(5), 4);
        Due.is("23: restore of the same", x.restore(1), 1);
        Due.is("23: it is recorded", x.count(5), 5);
        String before = Due.sets(x);
        for (int left = 4; left >= 2; left--) {
            Due.is("23: undo() of nothing different", x.undo(), left);
            Due.same("23: the same", Due.sets(x), before);
        }
        Due.is("23: undo() of the first restore", x.undo(), 1);
        Due.is("23: no set", x.count(0), 0);
    }

    /** put, wipe, save and undo are no changes; nor are answers. */
    private static void noChanges() {
        CoverShares x = new CoverShares();
        x.put('a');
        Due.is("8: put is no change", x.count(5), 0);
        x.wipe();
        Due.is("9: wipe is no change", x.count(5), 0);
        x.fault();
        Due.is("10: fault is no change", x.count(5), 0);
        x.save(0);
        x.save(1);
        Due.is("24: save is no change", x.count(5), 0);
        Kept.asks().forEach(ask -> ask.applyAsInt(x));
        Due.is("12 to 22: answers are no changes", x.count(5), 0);
        Due.is("23: there is nothing to undo", x.undo(), CoverShares.NOT_POSSIBLE);
    }

    /** "Undoes the latest change: things and sets are as they were before it." */
    private static void thingsAndSetsAsBefore() {
        Change[] changes = changes();
        CoverShares x = withSlot();
        String[] before = new String[changes.length];
        for (int change = 0; change < changes.length; change++) {
            before[change] = Due.sets(x);
            changes[change].on(x);
        }
        for (int change = changes.length - 1; change >= changes.length - 6; change--) {
            Due.is("23: undo()", x.undo(), change - (changes.length - 6));
            Due.same("23: before change " + change, Due.sets(x), before[change]);
        }
    }

    /** An undo goes further back than the one before it, and a change after it is recorded from there. */
    private static void undoIsNoChange() {
        CoverShares x = new CoverShares();
        x.need(1);
        x.need(2);
        x.need(3);
        Due.is("23: back to 2", x.undo() * 10 + x.count(1), 22);
        Due.is("23: back to 1", x.undo() * 10 + x.count(1), 11);
        Due.is("23: on to 9", x.need(9), 1);
        Due.is("23: both can be undone", x.count(5), 2);
        Due.is("23: back to 1 again", x.undo() * 10 + x.count(1), 11);
        Due.is("23: back to 0", x.undo() * 10 + x.count(1), 0);
    }

    /** "NOT_POSSIBLE if there is none": of a new object, after the last one, and after six of seven. */
    private static void noneIsLeft() {
        CoverShares x = new CoverShares();
        Due.is("23: a new object", x.undo(), CoverShares.NOT_POSSIBLE);
        x.need(5);
        Due.is("23: the only one", x.undo(), 0);
        Due.is("23: none is left", x.undo(), CoverShares.NOT_POSSIBLE);
        Due.is("23: and again", x.undo(), CoverShares.NOT_POSSIBLE);
        for (int change = 1; change <= 7; change++) {
            x.need(change);
        }
        for (int left = 5; left >= 0; left--) {
            Due.is("23: six of seven", x.undo(), left);
        }
        Due.is("23: not the seventh", x.undo(), CoverShares.NOT_POSSIBLE);
        Due.is("23: the first change stays", x.count(1), 1);
    }

    /** An object of 14 sets is brought back, and one without sets: nothing of the other one stays. */
    private static void undoOfFullAndEmpty() {
        CoverShares x = Kept.made("full");
        String full = Due.sets(x);
        CoverShares empty = new CoverShares();
        empty.save(0);
        x.drop(13);
        Due.is("23: 14 sets again", x.undo() * 100 + x.count(0), 514);
        Due.same("23: all as before", Due.sets(x), full);
        CoverShares grown = new CoverShares();
        Due.write(grown, "ar=500;".repeat(10) + "b=2;c=3");
        Due.is("23: too early for it", grown.load(), 12);
        Due.is("23: no sets again", grown.undo() * 100 + grown.count(0), 0);
        Due.is("23: the first one anew", grown.set(2, 3), 0);
        Due.same("23: nothing of the old ones", Due.sets(grown), " needed 0 | 2 3 0");
    }

    /** "things and sets are as they were before it": neither the pad nor the slots. */
    private static void padAndSlotsStay() {
        CoverShares x = new CoverShares();
        x.need(1);
        x.save(0);
        Due.write(x, "a=1");
        x.load();
        Due.write(x, "b=22");
        x.save(0);
        x.undo();
        Due.is("23: the pad that was written after it", x.count(4), 4);
        Due.is("23: the slot that was saved after it", x.restore(0), 1);
        Due.is("25: the pad stays", x.count(4), 4);
        Due.is("25: the text stays", x.load(), 1);
        Due.is("25: as it was", x.ofSet(1, 1), 22);
        Due.is("23: undo of load", x.undo(), 2);
        Due.is("23: does not write the text again", x.count(4), 0);
    }

    /** Promise 24: "slot: 0 or 1": each alone. */
    private static void eachSlotAlone() {
        for (int slot = 0; slot < 2; slot++) {
            CoverShares x = Due.made("a", "ab", 5);
            Due.is("24: save(" + slot + ")", x.save(slot), 1);
            Due.is("24: the other slot is empty", x.restore(1 - slot), CoverShares.NOT_POSSIBLE);
            x.set(1, 1);
            x.need(0);
            Due.is("24: save of the other", x.save(1 - slot), 2);
            Due.is("25: restore(" + slot + ")", x.restore(slot), 1);
            Due.same("25: slot " + slot, Due.sets(x), " needed 1 | 3 5 0");
            Due.is("25: restore of the other", x.restore(1 - slot), 2);
            Due.same("25: the other", Due.sets(x), " needed 0 | 3 5 0 | 1 1 0");
        }
    }

    /** Promise 24: "overwrites what was saved there": more by less, and less by more. */
    private static void writtenOver() {
        CoverShares x = Kept.made("full");
        String full = Due.sets(x);
        Due.is("24: 14 sets over one", x.save(0), 14);
        for (int left = 13; left >= 0; left--) {
            x.drop(left);
        }
        x.need(0);
        Due.is("24: no sets over 14", x.save(1), 0);
        Due.is("25: 14 sets", x.restore(0), 14);
        Due.same("25: all 14", Due.sets(x), full);
        Due.is("25: no sets", x.restore(1), 0);
        Due.same("25: none of them", Due.sets(x), " needed 0");
        Due.is("25: a first set anew", x.set(4, 9), 0);
        Due.same("25: nothing of the old ones", Due.sets(x), " needed 0 | 4 9 0");
    }

    /** Promise 24: "Returns how many sets there are"; promise 25: "then": 0 and 14. */
    private static void emptyAndFullAreSaved() {
        CoverShares x = new CoverShares();
        Due.is("24: a new object is saved", x.save(0), 0);
        Due.is("25: what is saved is something, though it is empty", x.restore(0), 0);
        for (int set = 0; set < 14; set++) {
            x.set(1, 1);
            Due.is("24: as many as there are", x.save(1), set + 1);
        }
        Due.is("25: none then", x.restore(0), 0);
        Due.is("25: 14 then", x.restore(1), 14);
    }

    /** Promise 25: "Restores what was saved last in a slot, which keeps it": again and again, whatever comes after it. */
    private static void slotIsKept() {
        CoverShares x = Due.made("ab", "a", 1, "b", 2);
        x.mark(0, CoverShares.BARRED);
        x.save(0);
        Change[] later = {y -> y.need(0), y -> y.set(7, 7), y -> y.price(0, 99), y -> y.mark(1, 1), y -> y.turn(1, 9),
            y -> y.drop(0), EndsOfUndoSavingTest::loadTwo, CoverShares::undo, y -> y.save(1)};
        for (int change = 0; change < later.length; change++) {
            later[change].on(x);
            Due.is("25: restore after " + change, x.restore(0), 2);
            Due.same("25: what was saved, after " + change, Due.sets(x), " needed 3 | 1 1 2 | 2 2 0");
        }
    }

    /** Promise 25: "This is a change." */
    private static void restoreIsAChange() {
        CoverShares x = Due.made("a", "a", 1);
        x.save(0);
        x.drop(0);
        Due.is("25: three changes", x.count(5), 3);
        x.restore(0);
        Due.is("25: a fourth", x.count(5), 4);
        Due.is("25: it is undone", x.undo(), 3);
        Due.is("25: no sets again", x.count(0), 0);
        Due.is("25: the slot is kept", x.restore(0), 1);
    }

    /** Promise 25: "what was saved last". */
    private static void savedLast() {
        CoverShares x = new CoverShares();
        for (int time = 1; time <= 9; time++) {
            x.need(time);
            x.save(time % 2);
        }
        x.restore(0);
        Due.is("25: the last one in slot 0", x.count(1), 8);
        x.restore(1);
        Due.is("25: the last one in slot 1", x.count(1), 9);
    }
}
