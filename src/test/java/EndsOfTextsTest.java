/**
 * The ends that 'Texts' and promises 8 to 11 name: the empty and the full pad, each code, each number and each letter
 * at its end. Each test tells its sentence. What is just not allowed stands in RefusedTest, too.
 */
final class EndsOfTextsTest {
    private static final String ALL_LETTERS = "abcdefghijklmnopqr";

    private EndsOfTextsTest() {
    }

    public static void main(String[] args) {
        eightyCharacters();
        oneToEightCharacters();
        codes();
        noMoreCharacters();
        orderOfCharacters();
        wipe();
        textOfSets();
        thingOrMore();
        lettersRise();
        numbers();
        numbersTooGreat();
        leadingZeros();
        firstFault();
        tooEarly();
        faultOfFullPad();
        loadUpTo14();
        loadBehindOthers();
        loadEmptiesThePad();
        loadThatIsRefused();
        Due.end("EndsOfTextsTest");
    }

    private static CoverShares withPad(int length) {
        CoverShares x = new CoverShares();
        Due.write(x, "a".repeat(length));
        Due.is("a pad of " + length, x.count(4), length);
        return x;
    }

    /** "a text of at most 80 characters"; "TOO_MANY if the pad would be longer than 80". */
    private static void eightyCharacters() {
        for (int many = 1; many <= 8; many++) {
            long signs = Due.packed("b".repeat(many));
            Due.is("8: just 80 by " + many, withPad(80 - many).put(signs), 80);
            Due.is("8: just 79 by " + many, withPad(79 - many).put(signs), 79);
            for (int before = 81 - many; before <= 80; before++) {
                CoverShares x = withPad(before);
                Due.is("8: " + before + " and " + many, x.put(signs), CoverShares.TOO_MANY);
                Due.is("8: the length stays", x.count(4), before);
            }
        }
        CoverShares x = withPad(79);
        Due.is("8: two are too many", x.put(Due.packed("aa")), CoverShares.TOO_MANY);
        Due.is("8: one still goes", x.put('a'), 80);
    }

    /** "characters: 1 to 8 characters"; "BAD_VALUE if there is no character"; "Returns the length of the pad then". */
    private static void oneToEightCharacters() {
        CoverShares x = new CoverShares();
        Due.is("8: none", x.put(0), CoverShares.BAD_VALUE);
        int length = 0;
        for (int many = 1; many <= 8; many++) {
            length += many;
            Due.is("8: " + many, x.put(Due.packed("~".repeat(many))), length);
        }
    }

    /** "BAD_VALUE if ... a code is not 33 to 126": at each of the eight places. */
    private static void codes() {
        for (int place = 0; place < 8; place++) {
            for (int code = 0; code < 256; code++) {
                long others = 0x6161616161616161L & ~(255L << 8 * place);
                long signs = others | (long) code << 8 * place;
                boolean ends = place == 7 && code == 0;
                int due = code >= 33 && code <= 126 ? 8 : ends ? 7 : CoverShares.BAD_VALUE;
                Due.is("8: the code " + code + " at place " + place, new CoverShares().put(signs), due);
                long last = signs & (place == 7 ? -1 : (1L << 8 * place + 8) - 1);
                int dueOfLast = code >= 33 && code <= 126 ? place + 1 : code == 0 && place > 0 ? place : CoverShares.BAD_VALUE;
                Due.is("8: the code " + code + " as the first of " + (place + 1), new CoverShares().put(last), dueOfLast);
            }
        }
    }

    /** "8 bits that are 0 mean that there are no more characters, and everything above them has to be 0, too". */
    private static void noMoreCharacters() {
        for (int many = 0; many < 8; many++) {
            long signs = many == 0 ? 0 : Due.packed("a".repeat(many));
            for (int bit = 8 * many + 8; bit < 64; bit++) {
                Due.is("8: bit " + bit + " above " + many, new CoverShares().put(signs | 1L << bit), CoverShares.BAD_VALUE);
            }
            if (many < 7) {
                long above = signs | 97L << 8 * many + 8;
                Due.is("8: a character above " + many + " and none", new CoverShares().put(above), CoverShares.BAD_VALUE);
            }
        }
    }

    /** "its lowest 8 bits are the last character, the next 8 bits the one before, and so on": shown by the loaded set. */
    private static void orderOfCharacters() {
        CoverShares x = new CoverShares();
        x.put(((((((97L << 8 | 98) << 8 | 99) << 8 | 114) << 8 | 61) << 8 | 49) << 8 | 50) << 8 | 51);
        Due.is("8: eight at once", x.load(), 1);
        Due.is("8: abcr", x.ofSet(0, 0), Due.things("abcr"));
        Due.is("8: 123", x.ofSet(0, 1), 123);
        for (char sign : "pq=500".toCharArray()) {
            x.put(sign);
        }
        Due.is("8: each alone", x.load(), 1);
        Due.is("8: pq", x.ofSet(1, 0), Due.things("pq"));
        Due.is("8: 500", x.ofSet(1, 1), 500);
    }

    /** Promise 9: "Empties the pad, and returns the length that it had": the empty and the full one. */
    private static void wipe() {
        for (int length : new int[] {0, 1, 79, 80}) {
            CoverShares x = withPad(length);
            Due.is("9: wipe()", x.wipe(), length);
            Due.is("9: the pad is empty", x.count(4), 0);
            Due.is("9: its fault", x.fault(), 0);
            Due.is("9: wipe() again", x.wipe(), 0);
            Due.is("9: there is room for all again", x.put('b'), 1);
        }
        CoverShares full = withPad(80);
        full.wipe();
        Due.write(full, Kept.FULL_PAD);
        Due.is("9: 80 again", full.count(4), 80);
        Due.is("9: nothing of the old text", full.fault(), CoverShares.NONE);
    }

    /** "text = set { ';' set }": one set, and many. */
    private static void textOfSets() {
        Due.is("10: one set", Due.faultOf("a=1"), CoverShares.NONE);
        Due.is("10: two sets", Due.faultOf("a=1;a=1"), CoverShares.NONE);
        Due.is("10: twenty sets", Due.faultOf("a=1;".repeat(19) + "r=9"), CoverShares.NONE);
        Due.is("10: no set ahead", Due.faultOf(";a=1"), 0);
        Due.is("10: no set between", Due.faultOf("a=1;;a=1"), 4);
        Due.is("10: another sign between", Due.faultOf("a=1,a=1"), 3);
        Due.is("10: no sign between", Due.faultOf("a=1a=1"), 3);
    }

    /** "set = thing { thing } '=' number": one thing, all 18, and none. */
    private static void thingOrMore() {
        Due.is("10: one thing", Due.faultOf("r=1"), CoverShares.NONE);
        Due.is("10: all things", Due.faultOf(ALL_LETTERS + "=1"), CoverShares.NONE);
        Due.is("10: no thing", Due.faultOf("=1"), 0);
        Due.is("10: no thing in the second set", Due.faultOf("a=1;=1"), 4);
        Due.is("10: no equals sign", Due.faultOf("a1"), 1);
        Due.is("10: two equals signs", Due.faultOf("a==1"), 2);
        Due.is("10: a thing behind the equals sign", Due.faultOf("a=b"), 2);
        Due.is("10: a second number", Due.faultOf("a=1=1"), 3);
        Due.is("10: no number", Due.faultOf("a=;b=1"), 2);
        Due.is("10: no number in the second set", Due.faultOf("a=1;b=;"), 6);
        Due.is("10: no number in the last set", Due.faultOf("a=1;b="), 6);
    }

    /** "A thing is a letter from a to r, the letters of a set rise." */
    private static void lettersRise() {
        for (char first = 'a'; first <= 'r'; first++) {
            for (char sign = 33; sign <= 126; sign++) {
                boolean stands = sign > first && sign <= 'r' || sign == '=';
                Due.is("10: " + first + sign, Due.faultOf("" + first + sign), stands ? 2 : 1);
            }
        }
        for (char sign = 33; sign <= 126; sign++) {
            boolean stands = sign >= 'a' && sign <= 'r';
            Due.is("10: " + sign + " alone", Due.faultOf("" + sign), stands ? 1 : 0);
            Due.is("10: " + sign + " in a second set", Due.faultOf("r=1;" + sign), stands ? 5 : 4);
        }
        Due.is("10: a letter that is lower than the one before the last", Due.faultOf("acb=1"), 2);
        Due.is("10: a letter twice, not one behind the other", Due.faultOf("aba=1"), 2);
    }

    /** "A number is 1 to 500": each of them, and what is loaded. */
    private static void numbers() {
        for (int number = 1; number <= 500; number++) {
            CoverShares x = new CoverShares();
            Due.write(x, "a=" + number);
            Due.is("10: a=" + number, x.fault(), CoverShares.NONE);
            Due.is("11: a=" + number, x.load(), 1);
            Due.is("11: the price", x.ofSet(0, 1), number);
        }
    }

    /** "also of a digit by which the number would be above 500". */
    private static void numbersTooGreat() {
        for (int number = 501; number <= 5009; number++) {
            int due = number < 1000 || number / 10 > 500 ? 4 : 5;
            Due.is("10: a=" + number, Due.faultOf("a=" + number), due);
        }
        Due.is("10: the digit, not the end", Due.faultOf("a=501;"), 4);
        Due.is("10: no wrap-around", Due.faultOf("a=4294967297"), 5);
        Due.is("10: no wrap-around of 64 bits", Due.faultOf("a=18446744073709551617"), 5);
        Due.is("10: the second number", Due.faultOf("a=500;b=501"), 10);
    }

    /** "without leading zeros". */
    private static void leadingZeros() {
        Due.is("10: 0", Due.faultOf("a=0"), 2);
        Due.is("10: 01", Due.faultOf("a=01"), 2);
        Due.is("10: 00", Due.faultOf("a=00"), 2);
        Due.is("10: 0 in the second set", Due.faultOf("a=1;b=0"), 6);
        Due.is("10: zeros that do not lead", Due.faultOf("a=10;b=100;c=500"), CoverShares.NONE);
    }

    /** "the index of the first character that cannot stand at its place when the text is read from left to right". */
    private static void firstFault() {
        Due.is("10: the first of many", Due.faultOf("!!!!"), 0);
        Due.is("10: the first of two", Due.faultOf("ba=0"), 1);
        Due.is("10: a fault, and too early an end", Due.faultOf("aa="), 1);
        Due.is("10: a fault at the last sign", Due.faultOf("a=1;b=22!"), 8);
        CoverShares x = new CoverShares();
        Due.write(x, "a=1!");
        Due.is("10: the fault", x.fault(), 3);
        Due.write(x, ";b=2");
        Due.is("10: it stays", x.fault(), 3);
    }

    /** "if there is none and the text ends too early (also if it is empty), it is the length of the text". */
    private static void tooEarly() {
        CoverShares x = new CoverShares();
        Due.is("10: an empty text", x.fault(), 0);
        String text = "ab=12;c=500;r=1";
        for (int length = 1; length <= text.length(); length++) {
            x.put(text.charAt(length - 1));
            char last = text.charAt(length - 1);
            Due.is("10: " + text.substring(0, length), x.fault(), last >= '0' && last <= '9' ? CoverShares.NONE : length);
        }
        Due.write(x, "");
        Due.is("10: nothing comes, nothing is other", x.fault(), CoverShares.NONE);
    }

    /** The fault of a text of 80 characters: none, at the first, at the last, and too early an end. */
    private static void faultOfFullPad() {
        Due.is("10: 80 signs", Kept.FULL_PAD.length(), 80);
        Due.is("10: no fault", Due.faultOf(Kept.FULL_PAD), CoverShares.NONE);
        Due.is("10: at the first", Due.faultOf("!" + Kept.FULL_PAD.substring(1)), 0);
        Due.is("10: at the last", Due.faultOf(Kept.FULL_PAD.substring(0, 79) + "!"), 79);
        Due.is("10: too early an end", Due.faultOf("a=1;".repeat(20)), 80);
        CoverShares x = new CoverShares();
        Due.write(x, Kept.FULL_PAD);
        Due.is("11: it is loaded", x.load(), 4);
        Due.same("11: its sets", Due.sets(x), " needed 0 | 262143 500 0 | 262143 499 0 | 262143 100 0 | 127 123 0");
    }

    private static String sets(int many) {
        return "b=2;".repeat(many).substring(0, 4 * many - 1);
    }

    /** "TOO_MANY if there would be more than 14 sets"; "Returns how many sets were made". */
    private static void loadUpTo14() {
        for (int there = 0; there <= 14; there++) {
            for (int more = 1; more <= 20; more++) {
                CoverShares x = new CoverShares();
                for (int set = 0; set < there; set++) {
                    x.set(1, 1);
                }
                Due.write(x, sets(more));
                boolean fits = there + more <= 14;
                Due.is("11: " + there + " and " + more, x.load(), fits ? more : CoverShares.TOO_MANY);
                Due.is("11: sets then", x.count(0), fits ? there + more : there);
                Due.is("11: the pad then", x.count(4), fits ? 0 : 4 * more - 1);
                Due.is("11: changes then", x.count(5), Math.min(6, fits ? there + 1 : there));
            }
        }
    }

    /** "Makes the sets of the pad, FREE, behind those that there are". */
    private static void loadBehindOthers() {
        CoverShares x = new CoverShares();
        for (int set = 0; set < 14; set++) {
            x.set(set + 1, set + 1);
            x.mark(set, CoverShares.TAKEN);
        }
        for (int set = 13; set >= 11; set--) {
            x.drop(set);
        }
        Due.write(x, "a=500;" + ALL_LETTERS + "=1;r=77");
        Due.is("11: three where others were", x.load(), 3);
        Due.is("11: the last of those that there were", x.ofSet(10, 0) * 10 + x.ofSet(10, 2), 111);
        Due.is("11: the first", x.ofSet(11, 0) * 10000 + x.ofSet(11, 1) * 10 + x.ofSet(11, 2), 15000);
        Due.is("11: the things of the second", x.ofSet(12, 0), 262143);
        Due.is("11: the price and the mark of the second", x.ofSet(12, 1) * 10 + x.ofSet(12, 2), 10);
        Due.is("11: the things of the third", x.ofSet(13, 0), 1 << 17);
        Due.is("11: the price and the mark of the third", x.ofSet(13, 1) * 10 + x.ofSet(13, 2), 770);
    }

    /** "and empties the pad". */
    private static void loadEmptiesThePad() {
        CoverShares x = new CoverShares();
        Due.write(x, "a=1");
        Due.is("11: load()", x.load(), 1);
        Due.is("11: the length then", x.count(4), 0);
        Due.is("11: the fault then", x.fault(), 0);
        Due.is("11: there is nothing to load", x.load(), CoverShares.BAD_TEXT);
        Due.is("11: nothing to wipe", x.wipe(), 0);
        Due.is("11: the next sign is the first", x.put('a'), 1);
    }

    /** "A call that returns an error changes nothing": the text that was refused is loaded once there is room. */
    private static void loadThatIsRefused() {
        CoverShares x = new CoverShares();
        Due.write(x, sets(14));
        x.load();
        Due.write(x, "c=3;d=");
        Due.is("11: the fault is named first", x.load(), CoverShares.BAD_TEXT);
        x.put('4');
        Due.is("11: there are 14", x.load(), CoverShares.TOO_MANY);
        x.drop(0);
        Due.is("11: there are 13", x.load(), CoverShares.TOO_MANY);
        x.drop(0);
        Due.is("11: there are 12", x.load(), 2);
        Due.is("11: the last but one", x.ofSet(12, 0) * 10 + x.ofSet(12, 1), 43);
        Due.is("11: the last", x.ofSet(13, 0) * 10 + x.ofSet(13, 1), 84);
    }
}
