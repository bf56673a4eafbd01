/**
 * Promises 2 to 11 and 23 to 25: each call that is made changes what its promise says, and nothing else, in objects at
 * the ends of what there can be. What is looked at is compared with an object for which the call was not made.
 */
final class NothingElseTest {
    private static final String[] USED = {"uncovered", "idle", "small", "full", "faulty"};

    private NothingElseTest() {
    }

    private interface Change {
        int on(CoverShares x);
    }

    public static void main(String[] args) {
        for (String state : USED) {
            changes(state);
            changeAndUndo(state);
            undo(state);
            put(state);
            wipe(state);
            save(state);
            refusedRestoreBetween(state);
        }
        load();
        needKeepsTheSets();
        changesOfOneSet();
        Due.end("NothingElseTest");
    }

    private static void made(String call, Change change, CoverShares x) {
        Due.is(call + " is made", change.on(x) >= 0 ? 1 : 0, 1);
    }

    private static void sameLook(String call, CoverShares x, String state, int kind) {
        Due.same("after " + call + " in the state " + state + ", look " + kind, Kept.look(x, kind),
            Kept.look(Kept.made(state), kind));
    }

    private static void leaves(String call, Change change, String state, int... kinds) {
        for (int kind : kinds) {
            CoverShares x = Kept.made(state);
            made(call, change, x);
            sameLook(call, x, state, kind);
        }
    }

    private static int slotInUse(String state) {
        return state.equals("idle") ? 1 : 0;
    }

    /** The changes that can be made in each state in which there are sets. */
    private static Change[] changes() {
        return new Change[] {x -> x.need(5), x -> x.need(x.count(1)), x -> x.price(0, 444), x -> x.price(0, x.ofSet(0, 1)),
            x -> x.mark(1, (x.ofSet(1, 2) + 1) % 3), x -> x.mark(0, x.ofSet(0, 2)), x -> x.turn(0, 1 << 16),
            x -> x.drop(0), x -> x.drop(x.count(0) - 1)};
    }

    /** "This is a change": of things and sets; the text and the slots stay. */
    private static void changes(String state) {
        Change[] changes = changes();
        for (int number = 0; number < changes.length; number++) {
            leaves("change " + number, changes[number], state, Kept.SLOTS, Kept.PAD);
        }
        leaves("restore", x -> x.restore(slotInUse(state)), state, Kept.SLOTS, Kept.PAD);
        if (Kept.made(state).count(0) < 14) {
            leaves("set", x -> x.set(7, 7), state, Kept.SLOTS, Kept.PAD);
        }
    }

    /** "things and sets are as they were before it": but for the history, which has lost its oldest state if it was full. */
    private static void changeAndUndo(String state) {
        Change[] changes = changes();
        for (int number = 0; number < changes.length; number++) {
            Change change = changes[number];
            int full = Kept.made(state).count(5) == 6 ? 5 : Kept.made(state).count(5);
            Change both = x -> change.on(x) < 0 ? -9 : x.undo();
            Due.is("23: undo of change " + number + " in the state " + state, both.on(Kept.made(state)), full);
            leaves("change " + number + " and undo", both, state, Kept.SLOTS, Kept.PAD);
            CoverShares x = Kept.made(state);
            String before = Due.sets(x);
            both.on(x);
            Due.same("23: the sets after change " + number + " and undo in the state " + state, Due.sets(x), before);
        }
    }

    /** undo leaves the text and the slots; the states before the one that it brings back stay. */
    private static void undo(String state) {
        leaves("undo", CoverShares::undo, state, Kept.SLOTS, Kept.PAD);
        CoverShares x = Kept.made(state);
        String whole = Kept.look(Kept.made(state), Kept.HISTORY);
        String first = "\n  undo " + x.undo() + Due.sets(x);
        Due.same("23: the history after undo in the state " + state, first + Kept.look(x, Kept.HISTORY), whole);
    }

    /** put changes the pad alone. */
    private static void put(String state) {
        if (Kept.made(state).count(4) >= 80) {
            return;
        }
        leaves("put", x -> x.put('1'), state, Kept.HISTORY, Kept.SLOTS);
        CoverShares x = Kept.made(state);
        String before = Due.sets(x);
        made("put", y -> y.put('1'), x);
        Due.same("8: the sets after put in the state " + state, Due.sets(x), before);
    }

    /** wipe changes the pad alone. */
    private static void wipe(String state) {
        leaves("wipe", CoverShares::wipe, state, Kept.HISTORY, Kept.SLOTS);
        CoverShares x = Kept.made(state);
        String before = Due.sets(x);
        made("wipe", CoverShares::wipe, x);
        Due.same("9: the sets after wipe in the state " + state, Due.sets(x), before);
    }

    /** save changes its slot alone. */
    private static void save(String state) {
        for (int slot = 0; slot < 2; slot++) {
            int number = slot;
            leaves("save(" + slot + ")", x -> x.save(number), state, Kept.ANSWERS, Kept.HISTORY, Kept.PAD);
            CoverShares x = Kept.made(state);
            CoverShares twin = Kept.made(state);
            String saved = Due.sets(x);
            x.save(slot);
            int other = x.restore(1 - slot);
            Due.is("24: the other slot, in the state " + state, other, twin.restore(1 - slot));
            Due.same("24: what is in it, in the state " + state, Due.sets(x), Due.sets(twin));
            x.restore(slot);
            Due.same("24: what was saved, in the state " + state, Due.sets(x), saved);
        }
    }

    /** A slot that is not in use gives nothing, and what a refused restore leaves can still be undone and restored. */
    private static void refusedRestoreBetween(String state) {
        CoverShares x = Kept.made(state);
        CoverShares twin = Kept.made(state);
        x.restore(2);
        x.restore(-1);
        Due.is("25: as many can be undone", x.undo(), twin.undo());
        Due.same("25: the same is undone", Due.sets(x), Due.sets(twin));
    }

    /** load leaves the needed things, the sets that there are, their marks, and the slots. */
    private static void load() {
        leaves("load", CoverShares::load, "idle", Kept.SLOTS);
        CoverShares x = Kept.made("idle");
        x.mark(1, CoverShares.BARRED);
        x.need(3);
        String before = Due.sets(x);
        Due.is("11: load()", x.load(), 2);
        Due.same("11: two more", Due.sets(x), before + " | 1 1 0 | 2 2 0");
        Due.is("11: undo()", x.undo(), 5);
        Due.same("11: undone", Due.sets(x), before);
    }

    /** need leaves the sets. */
    private static void needKeepsTheSets() {
        for (String state : USED) {
            CoverShares x = Kept.made(state);
            String sets = Due.sets(x).substring((" needed " + x.count(1)).length());
            x.need(262143);
            Due.same("2: the sets in the state " + state, Due.sets(x), " needed 262143" + sets);
            x.need(0);
            Due.same("2: the sets in the state " + state, Due.sets(x), " needed 0" + sets);
        }
    }

    /** price, mark and turn change one number of one set. */
    private static void changesOfOneSet() {
        for (int set = 0; set < 3; set++) {
            int[][] due = {{3, 10, 0}, {2, 20, 0}, {4, 30, 0}};
            CoverShares x = Kept.made("idle");
            x.price(set, 500);
            due[set][1] = 500;
            Due.same("4: price(" + set + ", 500)", Due.sets(x), text(due));
            x.mark(set, CoverShares.BARRED);
            due[set][2] = CoverShares.BARRED;
            Due.same("5: mark(" + set + ", BARRED)", Due.sets(x), text(due));
            x.turn(set, 1 << 17);
            due[set][0] |= 1 << 17;
            Due.same("6: turn(" + set + ", the last thing)", Due.sets(x), text(due));
        }
    }

    private static String text(int[][] sets) {
        StringBuilder text = new StringBuilder(" needed 0");
        for (int[] set : sets) {
            text.append(" | ").append(set[0]).append(' ').append(set[1]).append(' ').append(set[2]);
        }
        return text.toString();
    }
}
