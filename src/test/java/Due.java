import java.util.function.IntSupplier;

/** What the tests share: answers that are due, objects that are made for them, and looks at all that an object shows. */
final class Due {
    private static int wrong = 0;
    private static int asked = 0;

    private Due() {
    }

    static void is(String call, long got, long want) {
        asked++;
        if (got != want) {
            wrong++;
            System.out.println(call + " answered " + got + ", due is " + want);
        }
    }

    static void same(String what, String got, String want) {
        asked++;
        if (!got.equals(want)) {
            wrong++;
            System.out.println(what + " is\n  " + got + "\nand has to be\n  " + want);
        }
    }

    /** A call that has to answer an error, and to change nothing; RefusedTest looks deeper, at objects made anew. */
    static void refused(CoverShares x, String call, IntSupplier made, int error) {
        String before = glance(x);
        is(call, made.getAsInt(), error);
        same("after " + call + " what there is", glance(x), before);
    }

    /** Few calls, so that a test stays below the 512 that are promised of one object. */
    private static String glance(CoverShares x) {
        return x.count(0) + " sets, needed " + x.count(1) + ", pad " + x.count(4) + ", changes " + x.count(5);
    }

    /** A call that has to answer, and to change nothing. */
    static void only(CoverShares x, String call, IntSupplier made, int answer) {
        refused(x, call, made, answer);
    }

    static String look(CoverShares x) {
        StringBuilder text = new StringBuilder();
        for (int what = 0; what <= 5; what++) {
            text.append(x.count(what)).append(' ');
        }
        text.append("fault ").append(x.fault()).append(sets(x));
        return text.toString();
    }

    /** The needed things and the sets with their things, prices and marks. */
    static String sets(CoverShares x) {
        StringBuilder text = new StringBuilder(" needed ").append(x.count(1));
        int sets = x.count(0);
        for (int set = 0; set < sets; set++) {
            text.append(" | ").append(x.ofSet(set, 0)).append(' ').append(x.ofSet(set, 1));
            text.append(' ').append(x.ofSet(set, 2));
        }
        return text.toString();
    }

    /** An object with needed things, and with sets: "ab" 5 "c" 1 and so on. */
    static CoverShares made(String needed, Object... lettersAndPrices) {
        CoverShares x = new CoverShares();
        x.need(things(needed));
        for (int i = 0; i < lettersAndPrices.length; i += 2) {
            x.set(things((String) lettersAndPrices[i]), (Integer) lettersAndPrices[i + 1]);
        }
        return x;
    }

    static int things(String letters) {
        int things = 0;
        for (char letter : letters.toCharArray()) {
            things |= 1 << letter - 'a';
        }
        return things;
    }

    /** The number that stands for up to eight characters. */
    static long packed(String text) {
        long number = 0;
        for (char sign : text.toCharArray()) {
            number = number << 8 | sign;
        }
        return number;
    }

    static void write(CoverShares x, String text) {
        for (int at = 0; at < text.length(); at += 8) {
            x.put(packed(text.substring(at, Math.min(at + 8, text.length()))));
        }
    }

    /** The fault of a text on a new object's pad. */
    static int faultOf(String text) {
        CoverShares x = new CoverShares();
        write(x, text);
        return x.fault();
    }

    static void end(String test) {
        System.out.println(test + ": " + asked + " answers, " + wrong + " not as due");
        if (wrong != 0) {
            System.exit(1);
        }
    }
}
