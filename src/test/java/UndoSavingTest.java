/** Promises 23 to 25: undo, save, restore. */
final class UndoSavingTest {
    private static final int[] NO_SLOTS = {-1, 2, 3, Integer.MIN_VALUE, Integer.MAX_VALUE};

    private UndoSavingTest() {
    }

    public static void main(String[] args) {
        undoOfEachChange();
        history();
        longHistory();
        undoKeepsPadAndSlots();
        save();
        restore();
        Due.end("UndoSavingTest");
    }

    private interface Change {
        int on(CoverShares x);
    }

    private static void undoOfEachChange() {
        Change[] changes = {x -> x.need(7), x -> x.set(4, 4), x -> x.price(0, 9), x -> x.mark(1, 2),
            x -> x.turn(1, 9), x -> x.drop(0), UndoSavingTest::loadOne, x -> x.restore(0), x -> x.need(3),
            x -> x.price(0, 5), x -> x.mark(0, 0)};
        for (int number = 0; number < changes.length; number++) {
            CoverShares x = new CoverShares();
            x.save(0);
            x.need(3);
            x.set(3, 5);
            x.set(2, 1);
            String before = Due.sets(x);
            Due.is("23: change " + number, changes[number].on(x) >= 0 ? 1 : 0, 1);
            Due.is("23: change " + number + " is kept", x.count(5), 4);
            Due.is("23: change " + number + " is undone", x.undo(), 3);
            Due.same("23: after change " + number + " and undo", Due.sets(x), before);
        }
    }

    private static int loadOne(CoverShares x) {
        Due.write(x, "c=3");
        return x.load();
    }

    private static void history() {
        CoverShares x = new CoverShares();
        Due.refused(x, "23: nothing to undo", x::undo, CoverShares.NOT_POSSIBLE);
        for (int change = 1; change <= 9; change++) {
            x.need(change);
            Due.is("23: how many can be undone", x.count(5), Math.min(change, 6));
        }
        for (int left = 5; left >= 0; left--) {
            Due.is("23: undo()", x.undo(), left);
            Due.is("23: the needed things", x.count(1), 3 + left);
        }
        Due.refused(x, "23: nothing more to undo", x::undo, CoverShares.NOT_POSSIBLE);
        Due.is("23: the oldest state stays", x.count(1), 3);
        x.need(20);
        x.need(21);
        Due.is("23: undo()", x.undo(), 1);
        x.need(22);
        Due.is("23: undo()", x.undo(), 1);
        Due.is("23: the state between", x.count(1), 20);
        Due.is("23: undo()", x.undo(), 0);
        Due.is("23: the state before", x.count(1), 3);
    }

    private static void longHistory() {
        CoverShares x = new CoverShares();
        String[] seen = new String[21];
        seen[0] = Due.sets(x);
        int now = 0;
        for (int change = 0; change < 20; change++) {
            int set = x.count(0) < 4 ? x.set(change + 1, change + 1) : x.drop(change % 4);
            Due.is("23: a change", set >= 0 ? 1 : 0, 1);
            now++;
            seen[now] = Due.sets(x);
            if (change % 5 == 4) {
                x.undo();
                x.undo();
                now -= 2;
                Due.same("23: two changes undone", Due.sets(x), seen[now]);
            }
        }
        for (int left = x.count(5) - 1; left >= 0; left--) {
            x.undo();
            now--;
            Due.same("23: one more undone", Due.sets(x), seen[now]);
        }
    }

    private static void undoKeepsPadAndSlots() {
        CoverShares x = Due.made("a", "a", 1);
        x.put('x');
        x.price(0, 2);
        x.save(1);
        x.undo();
        Due.is("23: the pad", x.count(4), 1);
        Due.is("23: the price", x.ofSet(0, 1), 1);
        Due.is("23: the slot is kept", x.restore(1), 1);
        Due.is("23: the saved price", x.ofSet(0, 1), 2);
    }

    private static void save() {
        CoverShares x = Due.made("ab", "a", 1, "b", 2);
        Due.only(x, "24: save(0)", () -> x.save(0), 2);
        x.set(4, 4);
        x.mark(0, CoverShares.TAKEN);
        Due.only(x, "24: save(1)", () -> x.save(1), 3);
        for (int no : NO_SLOTS) {
            Due.refused(x, "24: save(" + no + ")", () -> x.save(no), CoverShares.BAD_VALUE);
        }
        x.need(0);
        x.restore(0);
        Due.same("24: slot 0", Due.sets(x), " needed 3 | 1 1 0 | 2 2 0");
        x.restore(1);
        Due.same("24: slot 1", Due.sets(x), " needed 3 | 1 1 1 | 2 2 0 | 4 4 0");
        x.drop(0);
        Due.is("24: written anew", x.save(0), 2);
        x.restore(1);
        x.restore(0);
        Due.same("24: slot 0 anew", Due.sets(x), " needed 3 | 2 2 0 | 4 4 0");
        CoverShares none = new CoverShares();
        Due.is("24: a new object", none.save(1), 0);
        none.set(1, 1);
        Due.is("24: a new object is restored", none.restore(1), 0);
        Due.is("24: the other slot", none.restore(0), CoverShares.NOT_POSSIBLE);
    }

    private static void restore() {
        CoverShares x = Due.made("ab", "a", 1, "b", 2);
        for (int no : NO_SLOTS) {
            Due.refused(x, "25: restore(" + no + ")", () -> x.restore(no), CoverShares.BAD_VALUE);
        }
        Due.refused(x, "25: nothing saved", () -> x.restore(0), CoverShares.NOT_POSSIBLE);
        x.save(1);
        Due.refused(x, "25: nothing saved there", () -> x.restore(0), CoverShares.NOT_POSSIBLE);
        x.price(0, 100);
        x.mark(1, CoverShares.BARRED);
        x.need(0);
        Due.is("25: as many as can be", x.count(5), 6);
        Due.is("25: restore(1)", x.restore(1), 2);
        Due.same("25: the sets", Due.sets(x), " needed 3 | 1 1 0 | 2 2 0");
        Due.is("25: undo()", x.undo(), 5);
        Due.same("25: before it", Due.sets(x), " needed 0 | 1 100 0 | 2 2 2");
        x.drop(0);
        x.turn(0, 8);
        Due.is("25: restore(1) again", x.restore(1), 2);
        Due.same("25: the slot is as it was", Due.sets(x), " needed 3 | 1 1 0 | 2 2 0");
        x.price(0, 77);
        x.restore(1);
        Due.is("25: changes do not reach the slot", x.ofSet(0, 1), 1);
        x.put('a');
        x.restore(1);
        Due.is("25: the pad stays", x.count(4), 1);
    }
}
