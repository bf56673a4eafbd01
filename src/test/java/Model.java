import java.util.ArrayDeque;
import java.util.ArrayList;
import java.util.Deque;
import java.util.List;
import java.util.regex.Matcher;
import java.util.regex.Pattern;

/** The document read once more, as plainly and as slowly as it can be, to be compared with the class. */
final class Model {
    private static final int ALL = 262143;
    private static final Pattern TEXT;

    static {
        StringBuilder letters = new StringBuilder("(?:");
        for (char first = 'a'; first <= 'r'; first++) {
            letters.append(first > 'a' ? "|" : "").append(first);
            for (char later = (char) (first + 1); later <= 'r'; later++) {
                letters.append(later).append('?');
            }
        }
        String set = letters + ")=(?:500|[1-4][0-9][0-9]|[1-9][0-9]|[1-9])";
        TEXT = Pattern.compile(set + "(?:;" + set + ")*");
    }

    private static final class Set {
        int things;
        int price;
        int mark;

        Set(int things, int price, int mark) {
            this.things = things;
            this.price = price;
            this.mark = mark;
        }
    }

    private static final class State {
        int needed;
        List<Set> sets = new ArrayList<>();

        State copy() {
            State copy = new State();
            copy.needed = needed;
            for (Set set : sets) {
                copy.sets.add(new Set(set.things, set.price, set.mark));
            }
            return copy;
        }
    }

    private State now = new State();
    private final Deque<State> history = new ArrayDeque<>();
    private final State[] slots = new State[2];
    private String pad = "";

    int sets() {
        return now.sets.size();
    }

    private void change() {
        history.addLast(now.copy());
        if (history.size() > 6) {
            history.removeFirst();
        }
    }

    private boolean noSet(int set) {
        return set < 0 || set >= now.sets.size();
    }

    private static boolean out(int value, int from, int to) {
        return value < from || value > to;
    }

    int need(int things) {
        if (out(things, 0, ALL)) {
            return -2;
        }
        change();
        int before = now.needed;
        now.needed = things;
        return before;
    }

    int set(int things, int price) {
        if (out(things, 1, ALL) || out(price, 1, 500)) {
            return -2;
        }
        if (now.sets.size() == 14) {
            return -4;
        }
        change();
        now.sets.add(new Set(things, price, 0));
        return now.sets.size() - 1;
    }

    int price(int set, int price) {
        if (noSet(set)) {
            return -1;
        }
        if (out(price, 1, 500)) {
            return -2;
        }
        change();
        int before = now.sets.get(set).price;
        now.sets.get(set).price = price;
        return before;
    }

    int mark(int set, int mark) {
        if (noSet(set)) {
            return -1;
        }
        if (out(mark, 0, 2)) {
            return -2;
        }
        change();
        int before = now.sets.get(set).mark;
        now.sets.get(set).mark = mark;
        return before;
    }

    int turn(int set, int things) {
        if (noSet(set)) {
            return -1;
        }
        if (out(things, 1, ALL)) {
            return -2;
        }
        if (now.sets.get(set).things == things) {
            return -5;
        }
        change();
        now.sets.get(set).things ^= things;
        return now.sets.get(set).things;
    }

    int drop(int set) {
        if (noSet(set)) {
            return -1;
        }
        change();
        now.sets.remove(set);
        return now.sets.size();
    }

    int put(long characters) {
        StringBuilder text = new StringBuilder();
        boolean ended = false;
        for (int at = 0; at < 8; at++) {
            int code = (int) (characters >>> 8 * at & 255);
            if (code == 0) {
                ended = true;
            } else if (ended || out(code, 33, 126)) {
                return -2;
            } else {
                text.insert(0, (char) code);
            }
        }
        if (text.length() == 0) {
            return -2;
        }
        if (pad.length() + text.length() > 80) {
            return -4;
        }
        pad += text;
        return pad.length();
    }

    int wipe() {
        int before = pad.length();
        pad = "";
        return before;
    }

    int fault() {
        for (int end = 1; end <= pad.length(); end++) {
            Matcher matcher = TEXT.matcher(pad.substring(0, end));
            if (!matcher.matches() && !matcher.hitEnd()) {
                return end - 1;
            }
        }
        return TEXT.matcher(pad).matches() ? -6 : pad.length();
    }

    int load() {
        if (fault() != -6) {
            return -3;
        }
        String[] texts = pad.split(";");
        if (now.sets.size() + texts.length > 14) {
            return -4;
        }
        change();
        for (String text : texts) {
            String[] parts = text.split("=");
            now.sets.add(new Set(Due.things(parts[0]), Integer.parseInt(parts[1]), 0));
        }
        pad = "";
        return texts.length;
    }

    private static boolean in(int mask, int number) {
        return (mask & 1 << number) != 0;
    }

    private boolean isCover(int sets, int needed) {
        int things = 0;
        for (int set = 0; set < sets(); set++) {
            int mark = now.sets.get(set).mark;
            if (mark == 1 && !in(sets, set) || mark == 2 && in(sets, set)) {
                return false;
            }
            things |= in(sets, set) ? now.sets.get(set).things : 0;
        }
        return (needed & ~things) == 0;
    }

    private int priceOf(int sets) {
        int price = 0;
        for (int set = 0; set < sets(); set++) {
            price += in(sets, set) ? now.sets.get(set).price : 0;
        }
        return price;
    }

    private int withMark(int mark) {
        int sets = 0;
        for (int set = 0; set < sets(); set++) {
            sets |= now.sets.get(set).mark == mark ? 1 << set : 0;
        }
        return sets;
    }

    private boolean hasCover() {
        return isCover(withMark(0) | withMark(1), now.needed);
    }

    private int leastSets(int needed) {
        int best = -1;
        for (int sets = 0; sets < 1 << sets(); sets++) {
            if (isCover(sets, needed) && (best < 0 || priceOf(sets) < priceOf(best))) {
                best = sets;
            }
        }
        return best;
    }

    /** The shares, by the words of the document: all fillings are summed anew whenever they are looked at. */
    private final class Raised {
        final int[] shares = new int[18];
        final List<Integer> tight = new ArrayList<>();
        final List<Integer> dropped = new ArrayList<>();
        int rounds = 0;

        Raised() {
            while (waits()) {
                rounds++;
                for (int thing = 0; thing < 18; thing++) {
                    if (open(thing) && !inOneOf(thing, tight, -1)) {
                        shares[thing]++;
                        lookForTight();
                    }
                }
            }
            for (int place = tight.size() - 1; place >= 0; place--) {
                if (canGo(tight.get(place))) {
                    dropped.add(tight.get(place));
                }
            }
        }

        boolean open(int thing) {
            for (Set set : now.sets) {
                if (set.mark == 1 && in(set.things, thing)) {
                    return false;
                }
            }
            return in(now.needed, thing);
        }

        boolean inOneOf(int thing, List<Integer> sets, int without) {
            for (int set : sets) {
                if (set != without && !dropped.contains(set) && in(now.sets.get(set).things, thing)) {
                    return true;
                }
            }
            return false;
        }

        boolean waits() {
            for (int thing = 0; thing < 18; thing++) {
                if (open(thing) && !inOneOf(thing, tight, -1)) {
                    return true;
                }
            }
            return false;
        }

        boolean canGo(int set) {
            for (int thing = 0; thing < 18; thing++) {
                if (open(thing) && !inOneOf(thing, tight, set)) {
                    return false;
                }
            }
            return true;
        }

        int filling(int set) {
            int filling = 0;
            for (int thing = 0; thing < 18; thing++) {
                filling += open(thing) && in(now.sets.get(set).things, thing) ? shares[thing] : 0;
            }
            return now.sets.get(set).mark == 0 ? filling : 0;
        }

        void lookForTight() {
            for (int set = 0; set < sets(); set++) {
                Set one = now.sets.get(set);
                if (one.mark == 0 && !tight.contains(set) && filling(set) == one.price) {
                    tight.add(set);
                }
            }
        }

        int cover() {
            int cover = withMark(1);
            for (int set : tight) {
                cover |= dropped.contains(set) ? 0 : 1 << set;
            }
            return cover;
        }

        int bound() {
            int bound = priceOf(withMark(1));
            for (int share : shares) {
                bound += share;
            }
            return bound;
        }
    }

    int ofSet(int set, int what) {
        if (noSet(set)) {
            return -1;
        }
        if (out(what, 0, 7)) {
            return -2;
        }
        Set one = now.sets.get(set);
        if (what <= 2) {
            return what == 0 ? one.things : what == 1 ? one.price : one.mark;
        }
        if (what == 7) {
            return alone(set);
        }
        if (!hasCover()) {
            return -5;
        }
        Raised raised = new Raised();
        int place = raised.tight.indexOf(set);
        int dropped = raised.dropped.contains(set) ? 1 : 0;
        return what == 3 ? raised.filling(set) : what == 4 ? (place < 0 ? 0 : 1) : what == 5 ? (place < 0 ? -6 : place)
            : dropped;
    }

    private int alone(int set) {
        int alone = 0;
        for (int thing = 0; thing < 18; thing++) {
            if (in(now.needed, thing) && setsNotBarred(thing) == 1 << set) {
                alone |= 1 << thing;
            }
        }
        return alone;
    }

    private int setsNotBarred(int thing) {
        return setsWith(thing) & ~withMark(2);
    }

    private int setsWith(int thing) {
        int sets = 0;
        for (int set = 0; set < sets(); set++) {
            sets |= in(now.sets.get(set).things, thing) ? 1 << set : 0;
        }
        return sets;
    }

    int ofThing(int thing, int what) {
        if (out(thing, 0, 17)) {
            return -1;
        }
        if (out(what, 0, 2)) {
            return -2;
        }
        if (what == 0) {
            return in(now.needed, thing) ? 1 : 0;
        }
        if (what == 1) {
            return setsWith(thing);
        }
        return hasCover() ? new Raised().shares[thing] : -5;
    }

    int count(int what) {
        int most = 0;
        for (int thing = 0; thing < 18; thing++) {
            most = Math.max(most, in(now.needed, thing) ? Integer.bitCount(setsNotBarred(thing)) : 0);
        }
        int[] numbers = {sets(), now.needed, hasCover() ? 1 : 0, most, pad.length(), history.size()};
        return out(what, 0, 5) ? -2 : numbers[what];
    }

    int shared(int what) {
        if (out(what, 0, 5)) {
            return -2;
        }
        if (!hasCover()) {
            return -5;
        }
        Raised raised = new Raised();
        int[] numbers = {raised.cover(), priceOf(raised.cover()), raised.bound(), raised.rounds, raised.tight.size(),
            raised.dropped.size()};
        return numbers[what];
    }

    int greedy(int what) {
        if (out(what, 0, 2)) {
            return -2;
        }
        if (!hasCover()) {
            return -5;
        }
        int cover = withMark(1);
        int last = -6;
        while (!isCover(cover, now.needed)) {
            last = bestRate(cover);
            cover |= 1 << last;
        }
        return what == 0 ? cover : what == 1 ? priceOf(cover) : last;
    }

    private int gain(int set, int cover) {
        int gain = 0;
        for (int thing = 0; thing < 18; thing++) {
            boolean has = in(now.sets.get(set).things, thing) && in(now.needed, thing);
            gain += has && (setsWith(thing) & cover) == 0 ? 1 : 0;
        }
        return gain;
    }

    /** 12252240 is a multiple of 1 to 18: the rates times it are whole. */
    private int bestRate(int cover) {
        int best = -1;
        long bestRate = Long.MAX_VALUE;
        for (int set = 0; set < sets(); set++) {
            int gain = gain(set, cover);
            if (now.sets.get(set).mark == 0 && gain > 0) {
                long rate = now.sets.get(set).price * 12252240L / gain;
                if (rate < bestRate) {
                    best = set;
                    bestRate = rate;
                }
            }
        }
        return best;
    }

    int least(int what) {
        if (out(what, 0, 1)) {
            return -2;
        }
        int sets = leastSets(now.needed);
        return sets < 0 ? -5 : what == 0 ? sets : priceOf(sets);
    }

    int covers(int price) {
        if (out(price, 0, 7000)) {
            return -2;
        }
        int many = 0;
        for (int sets = 0; sets < 1 << sets(); sets++) {
            many += isCover(sets, now.needed) && priceOf(sets) <= price ? 1 : 0;
        }
        return many;
    }

    int tightCovers() {
        int many = 0;
        for (int sets = 0; sets < 1 << sets(); sets++) {
            boolean tight = isCover(sets, now.needed);
            for (int set = 0; set < sets(); set++) {
                boolean free = now.sets.get(set).mark == 0 && in(sets, set);
                tight &= !free || !isCover(sets & ~(1 << set), now.needed);
            }
            many += tight ? 1 : 0;
        }
        return many;
    }

    /** All prices are tried, from the greatest one down. */
    int staysUpTo(int set) {
        if (noSet(set)) {
            return -1;
        }
        List<Integer> covers = new ArrayList<>();
        for (int sets = 0; sets < 1 << sets(); sets++) {
            if (isCover(sets, now.needed)) {
                covers.add(sets);
            }
        }
        int[] prices = new int[covers.size()];
        for (int at = 0; at < prices.length; at++) {
            prices[at] = priceOf(covers.get(at) & ~(1 << set));
        }
        for (int price = 500; price >= 1; price--) {
            int least = Integer.MAX_VALUE;
            int leastWith = Integer.MAX_VALUE;
            for (int at = 0; at < prices.length; at++) {
                boolean with = in(covers.get(at), set);
                least = Math.min(least, prices[at] + (with ? price : 0));
                leastWith = Math.min(leastWith, with ? prices[at] + price : Integer.MAX_VALUE);
            }
            if (leastWith == least && leastWith != Integer.MAX_VALUE) {
                return price;
            }
        }
        return -6;
    }

    int dearest(int what) {
        if (out(what, 0, 1)) {
            return -2;
        }
        if (!hasCover()) {
            return -5;
        }
        int dearest = -6;
        int price = -6;
        for (int thing = 0; thing < 18; thing++) {
            if (in(now.needed, thing)) {
                int then = priceOf(leastSets(now.needed & ~(1 << thing)));
                if (dearest < 0 || then < price) {
                    dearest = thing;
                    price = then;
                }
            }
        }
        return what == 0 ? dearest : price;
    }

    int check(int sets) {
        if (sets < 0) {
            return -1;
        }
        for (int set = 0; set < 31; set++) {
            if (in(sets, set) && set >= sets()) {
                return -1;
            }
        }
        return isCover(sets, now.needed) ? priceOf(sets) : -6;
    }

    int undo() {
        if (history.isEmpty()) {
            return -5;
        }
        now = history.removeLast();
        return history.size();
    }

    int save(int slot) {
        if (out(slot, 0, 1)) {
            return -2;
        }
        slots[slot] = now.copy();
        return sets();
    }

    int restore(int slot) {
        if (out(slot, 0, 1)) {
            return -2;
        }
        if (slots[slot] == null) {
            return -5;
        }
        change();
        now = slots[slot].copy();
        return sets();
    }
}
