/** Promises 8 to 11: put, wipe, fault, load. */
final class TextsTest {
    private TextsTest() {
    }

    public static void main(String[] args) {
        put();
        wipe();
        fault();
        faultOfEachSign();
        load();
        loadTooMany();
        Due.end("TextsTest");
    }

    private static void put() {
        CoverShares x = new CoverShares();
        Due.is("8: one", x.put('a'), 1);
        Due.is("8: eight", x.put(Due.packed("bc=12;de")), 9);
        Due.is("8: they stand in their order", x.put(Due.packed("f=3")), 12);
        Due.is("8: no fault", x.fault(), CoverShares.NONE);
        Due.is("8: no change", x.count(5), 0);
        Due.is("8: the lowest code", new CoverShares().put(33), 1);
        Due.is("8: the highest code", new CoverShares().put(126), 1);
        Due.is("8: eight of the highest", new CoverShares().put(0x7E7E7E7E7E7E7E7EL), 8);
        long[] bad = {0, 32, 127, 128, 255, -1, Long.MIN_VALUE, Long.MAX_VALUE, 'a' << 8, 'a' << 16 | 'b',
            (long) 'a' << 56 | 'b', 1L << 63 | 'b', 1L << 40 | 'b', 0x2061, 0x6120, 0x7F61, 0x8061616161616161L,
            0xE1616161616161E1L, 0x2061616161616161L, 0x6100616161616161L};
        for (long characters : bad) {
            Due.refused(x, "8: put(" + characters + ")", () -> x.put(characters), CoverShares.BAD_VALUE);
        }
        for (int i = 0; i < 8; i++) {
            x.put(Due.packed("aaaaaaaa"));
        }
        Due.refused(x, "8: 76 and 5", () -> x.put(Due.packed("aaaaa")), CoverShares.TOO_MANY);
        Due.refused(x, "8: bad first", () -> x.put(Due.packed("aaaa ")), CoverShares.BAD_VALUE);
        Due.is("8: 76 and 4", x.put(Due.packed("aaaa")), 80);
        Due.refused(x, "8: 80 and 1", () -> x.put('a'), CoverShares.TOO_MANY);
        Due.refused(x, "8: 80 and none", () -> x.put(0), CoverShares.BAD_VALUE);
    }

    private static void wipe() {
        CoverShares x = Due.made("a", "ab", 7);
        Due.only(x, "9: an empty pad", x::wipe, 0);
        Due.write(x, "a=1;b=22222");
        String sets = Due.sets(x);
        Due.is("9: wipe()", x.wipe(), 11);
        Due.is("9: the length then", x.count(4), 0);
        Due.is("9: no change", x.count(5), 2);
        Due.same("9: the sets", Due.sets(x), sets);
        Due.is("9: again", x.wipe(), 0);
        Due.write(x, "b=2");
        Due.is("9: nothing of the old text", x.fault(), CoverShares.NONE);
    }

    private static void fault() {
        String[] good = {"a=1", "r=500", "abcdefghijklmnopqr=499", "a=1;a=1", "ar=10;b=100;c=9", "a=50;b=5"};
        for (String text : good) {
            Due.is("10: " + text, Due.faultOf(text), CoverShares.NONE);
        }
        String[] tooEarly = {"", "a", "ab", "a=", "a=1;", "a=1;b", "a=1;b=", "r", "r="};
        for (String text : tooEarly) {
            Due.is("10: " + text, Due.faultOf(text), text.length());
        }
        String[] atLast = {"=", "1", ";", "s", "`", "A", "aa", "ba", "acb", "a;", "a1", "rr", "rs", "ra", "a=0", "a==",
            "a=;", "a=a", "a=501", "a=510", "a=600", "a=5000", "a=1000", "a=1=", "a=1a", "a=1 ", "a=1,", "a=1;;",
            "a=1;=", "a=1;1", "a=1;b=0", "a=1;bb", "a=1;b=2;ca", "a=/", "a=:", "a=1/", "a=1:", "a+", "a=-", "a=+"};
        for (String text : atLast) {
            CoverShares x = new CoverShares();
            for (char sign : text.replace(' ', '!').toCharArray()) {
                x.put(sign);
            }
            Due.is("10: " + text, x.fault(), text.length() - 1);
            x.put(Due.packed("a=1"));
            Due.only(x, "10: " + text + " and more", x::fault, text.length() - 1);
        }
        Due.is("10: a number begins anew", Due.faultOf("a=500;b=1;c=500"), CoverShares.NONE);
        Due.is("10: letters begin anew", Due.faultOf("pqr=5;abc=1;a=5"), CoverShares.NONE);
        Due.is("10: twenty sets", Due.faultOf("a=1;".repeat(19) + "a=1"), CoverShares.NONE);
        Due.is("10: eighty signs", Due.faultOf("a=1;".repeat(20)), 80);
    }

    /** Behind each beginning, each sign stands or does not stand. */
    private static void faultOfEachSign() {
        standing("", "abcdefghijklmnopqr");
        standing("a=1;", "abcdefghijklmnopqr");
        standing("a", "bcdefghijklmnopqr=");
        standing("bq", "r=");
        standing("r", "=");
        standing("a=", "123456789");
        standing("a=1", "0123456789;");
        standing("a=49", "0123456789;");
        standing("a=50", "0;");
        standing("a=51", ";");
        standing("a=5", "0123456789;");
        standing("a=500", ";");
        standing("a=100", ";");
    }

    private static void standing(String beginning, String signs) {
        for (char sign = 33; sign <= 126; sign++) {
            String text = beginning + sign;
            int fault = Due.faultOf(text);
            boolean stands = fault != beginning.length();
            Due.is("10: whether the last sign of " + text + " stands", stands ? 1 : 0, signs.indexOf(sign) >= 0 ? 1 : 0);
        }
    }

    private static void load() {
        CoverShares x = Due.made("a", "ab", 7);
        x.mark(0, CoverShares.BARRED);
        x.mark(x.set(2, 2), CoverShares.TAKEN);
        x.drop(1);
        Due.refused(x, "11: an empty pad", x::load, CoverShares.BAD_TEXT);
        Due.write(x, "a=1;cr=500;a=");
        Due.refused(x, "11: too early an end", x::load, CoverShares.BAD_TEXT);
        x.put('4');
        Due.is("11: load()", x.load(), 3);
        Due.same("11: the sets", Due.sets(x), " needed 1 | 3 7 2 | 1 1 0 | 131076 500 0 | 1 4 0");
        Due.is("11: the pad", x.count(4), 0);
        Due.is("11: a change", x.count(5), 6);
        Due.is("11: undo()", x.undo(), 5);
        Due.same("11: the sets then", Due.sets(x), " needed 1 | 3 7 2");
        Due.is("11: the pad stays empty", x.count(4), 0);
        Due.write(x, "b=2");
        Due.is("11: one set alone", x.load(), 1);
        Due.same("11: the sets", Due.sets(x), " needed 1 | 3 7 2 | 2 2 0");
    }

    private static void loadTooMany() {
        CoverShares x = new CoverShares();
        Due.write(x, "a=1;".repeat(14) + "a=1");
        Due.refused(x, "11: fifteen", x::load, CoverShares.TOO_MANY);
        x.put('x');
        Due.refused(x, "11: the fault first", x::load, CoverShares.BAD_TEXT);
        x.wipe();
        Due.write(x, "a=1;".repeat(19) + "a=1");
        Due.refused(x, "11: twenty", x::load, CoverShares.TOO_MANY);
        x.wipe();
        Due.write(x, "b=3;".repeat(13) + "c=500");
        Due.is("11: fourteen", x.load(), 14);
        Due.is("11: the first", x.ofSet(0, 0) * 1000 + x.ofSet(0, 1), 2003);
        Due.is("11: the last", x.ofSet(13, 0) * 1000 + x.ofSet(13, 1), 4500);
        Due.write(x, "a=1");
        Due.refused(x, "11: one more", x::load, CoverShares.TOO_MANY);
        x.drop(0);
        Due.is("11: the pad was kept", x.load(), 1);
        Due.is("11: fourteen again", x.count(0), 14);
    }
}
