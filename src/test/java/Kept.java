import java.util.ArrayList;
import java.util.List;
import java.util.function.ToIntFunction;

/** Objects at the ends of what there can be, and all that an object keeps, also what no single call shows. */
final class Kept {
    /** A new object; no cover; nothing is needed; a few sets; all that there can be; 14 sets, and a text with a fault. */
    static final String[] STATES = {"new", "uncovered", "idle", "small", "full", "faulty"};
    static final int ALL = 262143;
    /** Eighty signs, and four sets. */
    static final String FULL_PAD = "abcdefghijklmnopqr=500;abcdefghijklmnopqr=499;abcdefghijklmnopqr=100;abcdefg=123";

    private Kept() {
    }

    static CoverShares made(String state) {
        switch (state) {
            case "new":
                return new CoverShares();
            case "uncovered":
                return uncovered();
            case "idle":
                return idle();
            case "small":
                return small();
            case "full":
                return full();
            default:
                return faulty();
        }
    }

    /** Two sets, one of them BARRED; slot 0 alone is in use; the text ends too early; four changes can be undone. */
    private static CoverShares uncovered() {
        CoverShares x = Due.made("abr", "ar", 1, "b", 2);
        x.save(0);
        x.mark(1, CoverShares.BARRED);
        Due.write(x, "c=5;ab=");
        return x;
    }

    /** Three sets of which none is needed; slot 1 alone is in use; the text has no fault. */
    private static CoverShares idle() {
        CoverShares x = Due.made("ab", "ab", 10, "b", 20, "c", 30);
        x.save(1);
        x.need(0);
        Due.write(x, "a=1;b=2");
        return x;
    }

    /** Three sets and covers; both slots are in use; the text has no fault. */
    private static CoverShares small() {
        CoverShares x = Due.made("abc", "ab", 10, "bc", 20);
        x.save(1);
        x.set(5, 15);
        x.save(0);
        Due.write(x, "r=500");
        return x;
    }

    private static CoverShares full() {
        CoverShares x = fourteen();
        x.drop(0);
        x.mark(12, CoverShares.FREE);
        x.turn(3, ALL);
        x.price(4, 321);
        x.need(Due.things("abcdefg"));
        x.set(ALL, 500);
        Due.write(x, FULL_PAD);
        return x;
    }

    private static CoverShares faulty() {
        CoverShares x = fourteen();
        Due.write(x, "a=1;b=2;cc");
        return x;
    }

    private static CoverShares fourteen() {
        CoverShares x = new CoverShares();
        x.need(9);
        x.set(9, 90);
        x.save(0);
        x.need(Due.things("abcdefghijklm"));
        for (int set = 1; set < 14; set++) {
            x.set(3 << set, 17 * set);
        }
        x.mark(2, CoverShares.TAKEN);
        x.mark(5, CoverShares.BARRED);
        x.mark(13, CoverShares.TAKEN);
        x.save(1);
        return x;
    }

    static final int ANSWERS = 0;
    static final int HISTORY = 1;
    static final int SLOTS = 2;
    static final int PAD = 3;
    /** Each look needs an object of its own: so none takes it beyond the 512 calls that are promised. */
    static final int LOOKS = 4;

    /** Uses an object up, and tells what was found. */
    static String look(CoverShares x, int kind) {
        switch (kind) {
            case ANSWERS:
                return answers(x);
            case HISTORY:
                return history(x);
            case SLOTS:
                return slots(x);
            default:
                return pad(x);
        }
    }

    /** All answers of the calls that change nothing: some 340 calls. */
    private static String answers(CoverShares x) {
        StringBuilder text = new StringBuilder(Due.look(x));
        for (int set = 0; set <= 14; set++) {
            for (int what = 0; what <= 8; what++) {
                text.append(' ').append(x.ofSet(set, what));
            }
            text.append(' ').append(x.staysUpTo(set));
        }
        for (int thing = 0; thing <= 18; thing++) {
            for (int what = 0; what <= 3; what++) {
                text.append(' ').append(x.ofThing(thing, what));
            }
        }
        for (int what = -1; what <= 6; what++) {
            text.append(' ').append(x.count(what)).append(' ').append(x.shared(what)).append(' ').append(x.greedy(what));
            text.append(' ').append(x.least(what)).append(' ').append(x.dearest(what));
        }
        text.append(' ').append(x.covers(0)).append(' ').append(x.covers(300)).append(' ').append(x.covers(7000));
        text.append(' ').append(x.tightCovers()).append(' ').append(x.check(0)).append(' ').append(x.check(16383));
        return text.toString();
    }

    /** Each state that can be undone: some 360 calls. */
    private static String history(CoverShares x) {
        StringBuilder text = new StringBuilder();
        for (int left = x.count(5); left > 0; left--) {
            text.append("\n  undo ").append(x.undo()).append(Due.sets(x));
        }
        return text.toString();
    }

    /** What is saved: some 120 calls. */
    private static String slots(CoverShares x) {
        StringBuilder text = new StringBuilder();
        for (int slot = 0; slot < 2; slot++) {
            int sets = x.restore(slot);
            text.append("\n  slot ").append(sets).append(sets < 0 ? "" : Due.sets(x));
        }
        return text.toString();
    }

    /** The text as far as its fault and the sets that it makes show it: some 40 calls. */
    private static String pad(CoverShares x) {
        StringBuilder text = new StringBuilder();
        for (int left = x.count(0); left > 0; left--) {
            x.drop(0);
        }
        text.append("\n  pad ").append(x.count(4)).append(' ').append(x.fault());
        if (x.fault() == x.count(4)) {
            x.put('1');
        }
        x.need(0);
        text.append(' ').append(x.load()).append(Due.sets(x));
        return text.toString();
    }

    /** Each kind of call that only answers, with each of its numbers. */
    static List<ToIntFunction<CoverShares>> asks() {
        List<ToIntFunction<CoverShares>> asks = new ArrayList<>();
        for (int number = 0; number <= 7; number++) {
            int what = number;
            asks.add(x -> x.ofSet(0, what));
            asks.add(x -> x.ofThing(0, what % 3));
            asks.add(x -> x.count(what % 6));
            asks.add(x -> x.shared(what % 6));
            asks.add(x -> x.greedy(what % 3));
            asks.add(x -> x.least(what % 2));
            asks.add(x -> x.dearest(what % 2));
        }
        asks.add(x -> x.covers(7000));
        asks.add(CoverShares::tightCovers);
        asks.add(x -> x.staysUpTo(0));
        asks.add(x -> x.check(0));
        asks.add(x -> x.check(16383));
        asks.add(CoverShares::fault);
        return asks;
    }
}
