/** Promises 1 to 25: long runs of mixed calls, each answer compared with the model's. The runs are always the same. */
final class ModelRunsTest {
    private static final int CALLS = 480;

    private long seed;
    private CoverShares x;
    private Model model;
    private String name;
    private int mostSets;
    private int mostThings;
    private int mostPrice;

    private ModelRunsTest() {
    }

    public static void main(String[] args) {
        ModelRunsTest runs = new ModelRunsTest();
        for (int run = 0; run < 240; run++) {
            runs.begin(run, 1 + run % 7, 1 + run % 18, run % 3 == 0 ? 500 : 3 + run % 17);
        }
        for (int run = 240; run < 252; run++) {
            runs.begin(run, 14, run % 2 == 0 ? 18 : 8, run % 3 == 0 ? 500 : 12);
        }
        Due.end("ModelRunsTest");
    }

    private void begin(int run, int sets, int things, int price) {
        seed = run * 7919L + 17;
        x = new CoverShares();
        model = new Model();
        mostSets = sets;
        mostThings = things;
        mostPrice = price;
        for (int call = 0; call < CALLS; call++) {
            name = "run " + run + ", call " + call + ", ";
            int kind = next(100);
            if (kind < 36) {
                change(kind);
            } else if (kind < 50) {
                text(kind);
            } else if (sets < 14 || kind < 80 || kind % 5 == 0) {
                ask(kind);
            }
        }
    }

    private int next(int bound) {
        seed = seed * 6364136223846793005L + 1442695040888963407L;
        return (int) ((seed >>> 33) % bound);
    }

    private void same(String call, int got, int due) {
        Due.is(name + call, got, due);
    }

    /** Mostly a number from 0 to below the bound, now and then one beside or far away. */
    private int number(int bound) {
        int[] odd = {-1, bound, bound + 1, Integer.MIN_VALUE, Integer.MAX_VALUE, 31, 32, -2};
        return next(16) == 0 ? odd[next(odd.length)] : next(Math.max(1, bound));
    }

    private int anySet() {
        return number(model.sets());
    }

    private int anyThings() {
        int mask = next(1 << mostThings) & (next(3) == 0 ? next(1 << mostThings) : -1);
        return next(40) == 0 ? 262143 + next(2) : mask;
    }

    private int anyPrice() {
        return next(16) == 0 ? number(501) : 1 + next(mostPrice);
    }

    private void change(int kind) {
        int set = anySet();
        int things = anyThings();
        int price = anyPrice();
        if (kind < 9 && (model.sets() < mostSets || next(20) == 0)) {
            same("set(" + things + ", " + price + ")", x.set(things, price), model.set(things, price));
        } else if (kind < 13) {
            same("need(" + things + ")", x.need(things), model.need(things));
        } else if (kind < 17) {
            same("price(" + set + ", " + price + ")", x.price(set, price), model.price(set, price));
        } else if (kind < 22) {
            int mark = number(3) & (next(2) == 0 ? 0 : -1);
            same("mark(" + set + ", " + mark + ")", x.mark(set, mark), model.mark(set, mark));
        } else if (kind < 26) {
            same("turn(" + set + ", " + things + ")", x.turn(set, things), model.turn(set, things));
        } else if (kind < 28) {
            same("drop(" + set + ")", x.drop(set), model.drop(set));
        } else if (kind < 32) {
            same("undo()", x.undo(), model.undo());
        } else if (kind < 34) {
            same("save(" + set % 3 + ")", x.save(set % 3), model.save(set % 3));
        } else {
            same("restore(" + set % 3 + ")", x.restore(set % 3), model.restore(set % 3));
        }
    }

    private void text(int kind) {
        if (kind < 43) {
            long characters = characters();
            same("put(" + characters + ")", x.put(characters), model.put(characters));
        } else if (kind < 44) {
            same("wipe()", x.wipe(), model.wipe());
        } else if (kind < 47 || model.sets() > mostSets) {
            same("fault()", x.fault(), model.fault());
            if (model.fault() >= 0 && next(2) == 0) {
                same("wipe()", x.wipe(), model.wipe());
            }
        } else {
            same("load()", x.load(), model.load());
        }
    }

    /** Mostly a piece of a text without a fault. */
    private long characters() {
        if (next(20) == 0) {
            return (long) next(Integer.MAX_VALUE) << next(40);
        }
        StringBuilder piece = new StringBuilder();
        if (model.count(4) > 0 && model.fault() == CoverShares.NONE && next(10) != 0) {
            piece.append(';');
        }
        for (char letter = 'a'; letter <= 'r' && piece.length() < 4; letter++) {
            if (next(6) == 0) {
                piece.append(letter);
            }
        }
        piece.append('=').append(next(10) == 0 ? next(1000) : 1 + next(60));
        if (next(12) == 0) {
            piece.setCharAt(next(piece.length()), (char) (33 + next(94)));
        }
        return Due.packed(piece.toString());
    }

    private void ask(int kind) {
        int what = number(8);
        int set = anySet();
        int thing = number(18);
        if (kind < 58) {
            same("ofSet(" + set + ", " + what + ")", x.ofSet(set, what), model.ofSet(set, what));
        } else if (kind < 63) {
            same("ofThing(" + thing + ", " + what % 4 + ")", x.ofThing(thing, what % 4), model.ofThing(thing, what % 4));
        } else if (kind < 68) {
            same("count(" + what + ")", x.count(what), model.count(what));
        } else if (kind < 75) {
            same("shared(" + what + ")", x.shared(what), model.shared(what));
        } else if (kind < 80) {
            same("greedy(" + what % 4 + ")", x.greedy(what % 4), model.greedy(what % 4));
        } else {
            askCovers(kind, set, what);
        }
    }

    private void askCovers(int kind, int set, int what) {
        if (kind < 84) {
            same("least(" + what % 3 + ")", x.least(what % 3), model.least(what % 3));
        } else if (kind < 87) {
            int price = next(8) == 0 ? number(7001) : next(1 + mostPrice * mostSets);
            same("covers(" + price + ")", x.covers(price), model.covers(price));
        } else if (kind < 90) {
            same("tightCovers()", x.tightCovers(), model.tightCovers());
        } else if (kind < 94) {
            same("staysUpTo(" + set + ")", x.staysUpTo(set), model.staysUpTo(set));
        } else if (kind < 97) {
            same("dearest(" + what % 3 + ")", x.dearest(what % 3), model.dearest(what % 3));
        } else {
            int sets = next(2) == 0 ? (1 << Math.max(0, model.sets() - next(2))) - 1 : number(1 << model.sets());
            same("check(" + sets + ")", x.check(sets), model.check(sets));
        }
    }
}
