/** Terms, part 1: the edges of bytes, signs, blanks, letters, words and sentences. */
public final class PageEdgesTest {
    private static final String STOP = "behind a . or ! or ? and all . ! ? ) \" that stand right behind it, "
            + "if a BLANK or the page's end comes then";

    private static final String E = "\u00c3\u00a9";

    public static void main(String[] args) {
        bytes();
        pairs();
        blanks();
        letters();
        words();
        alike();
        fourteen();
        begins();
        stops();
        closers();
        initials();
        emptyLines();
        pageEnd();
        blanksAtTheEnd();
        wordsOfSentences();
        Check.finish();
    }

    private static PassagePicker page(String text) {
        PassagePicker picker = new PassagePicker();
        Check.page(picker, text);
        return picker;
    }

    private static String one(int octet) {
        return String.valueOf((char) octet);
    }

    private static boolean isBlank(int octet) {
        return octet == 9 || octet == 10 || octet == 32;
    }

    private static boolean isPlainLetter(int octet) {
        return octet >= 65 && octet <= 90 || octet >= 97 && octet <= 122;
    }

    private static void bytes() {
        Check.sentence("THE PAGE: at most 600 bytes (none at first).");
        Check.equal("bytes at first", new PassagePicker().count(0), 0);
        Check.equal("signs at first", new PassagePicker().count(1), 0);
        for (int size : new int[] {0, 1, 19, 20, 21, 580, 581, 599, 600}) {
            PassagePicker picker = page("a".repeat(size));
            Check.equal("bytes of " + size, picker.count(0), size);
            Check.equal("signs of " + size, picker.count(1), size);
            Check.equal("the last byte of " + size, picker.signOf(size - 1), size - 1);
            Check.equal("behind the last byte of " + size, picker.signOf(size), -1);
        }
        PassagePicker full = new PassagePicker();
        Check.feed(full, "a".repeat(600));
        Check.equal("a 601st byte", full.feed(0x62626262, 0, 0, 0, 0), -1);
        Check.equal("sentences of the full page", full.page(), 1);
        Check.equal("bytes of the full page", full.count(0), 600);
        Check.equal("its one word", full.word(0, 1), 600);
        Check.equal("its last byte", full.signOf(599), 599);
    }

    private static void pairs() {
        Check.sentence("SIGNS, one behind another: a PAIR (a byte 192 to 255 and one of 128 to 191 right behind it), "
                + "else one byte.");
        for (int first : new int[] {0, 9, 32, 127, 128, 190, 191, 192, 193, 254, 255}) {
            for (int second : new int[] {0, 9, 32, 127, 128, 129, 190, 191, 192, 193, 255}) {
                boolean pair = first >= 192 && second >= 128 && second < 192;
                PassagePicker picker = page(one(first) + one(second));
                String what = first + " and " + second + ": ";
                Check.equal(what + "signs", picker.count(1), pair ? 1 : 2);
                Check.equal(what + "signOf(1)", picker.signOf(1), pair ? 0 : 1);
                Check.equal(what + "sign(1)", picker.sign(1), pair ? -1 : 1);
                Check.equal(what + "words", picker.count(2), pair ? 1 : 0);
            }
        }
        Check.equal("not right behind", page("\u00c3a\u00a9").count(1), 3);
        Check.equal("a third byte is one of its own", page("\u00c3\u00a9\u00a9").count(1), 2);
        Check.equal("a second byte is that of a pair", page("\u00c3\u00c3\u00a9").count(1), 2);
        Check.equal("a first byte at the page's end", page("a\u00c3").count(1), 2);
        Check.equal("a second byte at the page's beginning", page("\u00a9a").count(1), 2);
        PassagePicker last = page("a".repeat(598) + E);
        Check.equal("a pair as bytes 598 and 599", last.signOf(599), 598);
        Check.equal("its signs", last.count(1), 599);
        Check.equal("all in pairs", page(E.repeat(300)).count(1), 300);
        Check.equal("all in pairs but the ends", page("\u00a9" + E.repeat(299) + "\u00c3").count(1), 301);
    }

    private static void blanks() {
        Check.sentence("BLANKS: 9, 10, 32.");
        for (int octet = 0; octet < 256; octet++) {
            int blank = isBlank(octet) ? 1 : 0;
            Check.equal("sentences of byte " + octet, page(one(octet)).count(3), 1 - blank);
            Check.equal("sentences by byte " + octet, page("ab!" + one(octet) + "cd").count(3), 1 + blank);
            PassagePicker query = new PassagePicker();
            Check.feed(query, "item" + one(octet) + "1 a;");
            String due = blank == 1 ? "1" : IllegalArgumentException.class.getName();
            Check.equal("item, byte " + octet + " and 1", Check.answer(query::query), due);
        }
    }

    private static void letters() {
        Check.sentence("LETTERS: a to z, A to Z, PAIRS.");
        for (int octet = 0; octet < 256; octet++) {
            int letter = isPlainLetter(octet) ? 1 : 0;
            Check.equal("words of byte " + octet, page(one(octet)).count(2), letter);
            Check.equal("words of b, byte " + octet + ", b", page("b" + one(octet) + "b").count(2), 2 - letter);
        }
        Check.equal("a word of pairs and letters", page("a" + E + "Z" + E).word(0, 1), 6);
        Check.equal("one word", page("a" + E + "Z" + E).count(2), 1);
    }

    private static void words() {
        Check.sentence("WORDS: rows of LETTERS, as long as can be, the first 100 of the page, numbered from 0 on.");
        Check.equal("words of nothing", page("").count(2), 0);
        Check.equal("words of signs that are no letters", page("1 - 2").count(2), 0);
        PassagePicker ends = page("ab-cd");
        Check.equal("the first begins at the page's beginning", ends.word(0, 0), 0);
        Check.equal("the last ends at the page's end", ends.word(1, 0) + ends.word(1, 1), 5);
        for (int size : new int[] {1, 99, 100, 101, 300}) {
            PassagePicker picker = page("a ".repeat(size));
            int due = Math.min(size, 100);
            Check.equal("words of " + size, picker.count(2), due);
            Check.equal("words of the sentence of " + size, picker.sentence(0, 4), due);
            Check.indices("word of " + size, due, w -> picker.word(w, 0));
            Check.equal("the last of " + size, picker.word(due - 1, 0), 2 * due - 2);
        }
        PassagePicker beyond = Check.picker("a ".repeat(99) + "b c", "item 1 b; item 1 c;");
        Check.equal("the hundredth", beyond.word(99, 4), 1);
        Check.equal("none beyond it matches", beyond.item(1, 3), 0);
        Check.equal("nor is it unlike", beyond.count(10), 2);
        PassagePicker last = page("a ".repeat(99) + "b".repeat(402));
        Check.equal("the hundredth goes to the page's end", last.word(99, 1), 402);
    }

    private static void alike() {
        Check.sentence("Two LETTERS are ALIKE, if they are one, or differ as small and capital ones (of a to z); "
                + "two WORDS, if LETTER by LETTER.");
        for (int k = 0; k < 26; k++) {
            String small = one('a' + k);
            String next = one('a' + (k + 1) % 26);
            PassagePicker picker = page(small + " " + one('A' + k) + " " + next);
            Check.equal("a capital " + small, picker.word(1, 5), 0);
            Check.equal("another letter than " + small, picker.word(2, 5), 2);
        }
        String[] unlike = {"\u00c3\u00a9 \u00c3\u0089", "\u00c3\u0081 \u00c3\u00a1", "\u00c3\u00a9 \u00e3\u00a9",
            "\u00c1\u00a1 \u00e1\u00a1", "fox foxe", "foxe fox", "fox fxo", "ab aab", "a" + E + " " + E + "a", "a " + E,
            E + " " + E + E, "ax ay", "xa ya"};
        for (String two : unlike) {
            Check.equal("unlike: " + two, page(two).count(10), 2);
        }
        PassagePicker picker = page("fo" + E + " FO" + E + " x fO" + E + " X");
        Check.equal("letter by letter", picker.word(1, 5), 0);
        Check.equal("the first of three", picker.word(3, 5), 0);
        Check.equal("the first of two", picker.word(4, 5), 2);
        Check.equal("one is alike itself", picker.word(2, 5), 2);
        Check.equal("unlike ones", picker.count(10), 2);
        Check.equal("in common", page("Fo" + E + ". fO" + E + ".").common(0, 1), 100);
    }

    private static void fourteen() {
        Check.sentence("SENTENCES: the first 14, numbered from 0 on:");
        for (int size : new int[] {0, 1, 13, 14, 15, 200}) {
            PassagePicker picker = page("a! ".repeat(size));
            int due = Math.min(size, 14);
            Check.equal("sentences of " + size, picker.count(3), due);
            Check.indices("sentence of " + size, due, s -> picker.sentence(s, 0));
            Check.equal("bits of all of " + size, picker.count(13), due == 0 ? 0 : 1);
        }
        PassagePicker all = page("a! ".repeat(15));
        Check.equal("the fourteenth begins", all.sentence(13, 0), 39);
        Check.equal("page() of fourteen", Check.page(all, "b? ".repeat(14)), 14);
        Check.equal("page() of fifteen", Check.page(all, "b? ".repeat(15)), 14);
        Check.equal("page() of thirteen", Check.page(all, "b? ".repeat(13)), 13);
        Check.indices("sentence of thirteen", 13, s -> all.sentence(s, 10));
        PassagePicker rest = page("b? ".repeat(13) + "c d\n\ne f");
        Check.equal("the fourteenth ends as any", rest.sentence(13, 1), 3);
    }

    private static void begin(String text, int due) {
        PassagePicker picker = page(text);
        Check.equal("begin in [" + text + "]", picker.count(3) == 0 ? -1 : picker.sentence(0, 0), due);
    }

    private static void begins() {
        Check.sentence("one begins at the first SIGN that is no BLANK (behind the one ahead), and ends:");
        begin("", -1);
        begin(" ", -1);
        begin("\t\n ".repeat(200), -1);
        begin("a", 0);
        begin(" a", 1);
        begin("\ta", 1);
        begin("\na", 1);
        begin("\n\n\na", 3);
        begin(" ".repeat(599) + "a", 599);
        begin(" " + E, 1);
        begin(" \u00a9", 1);
        begin("\u000b a", 0);
        begin(" .", 1);
        begin(" )", 1);
        PassagePicker second = page("a!  \t\n" + E + " b");
        Check.equal("the second begins", second.sentence(1, 0), 6);
        Check.equal("right behind one blank", page("a!\nb").sentence(1, 0), 3);
        Check.equal("no second of blanks", page("a! \t\n ").count(3), 1);
    }

    private static void first(String text, int sentences, int bytes) {
        PassagePicker picker = page(text);
        Check.equal("sentences of [" + text + "]", picker.count(3), sentences);
        Check.equal("bytes of the first of [" + text + "]", picker.sentence(0, 1), bytes);
    }

    private static void stops() {
        Check.sentence(STOP);
        for (int octet = 0; octet < 256; octet++) {
            boolean stop = octet == '.' || octet == '!' || octet == '?';
            Check.equal("sentences by byte " + octet, page("ab" + one(octet) + " cd").count(3), stop ? 2 : 1);
        }
        for (String stop : new String[] {".", "!", "?"}) {
            first("ab" + stop + " cd", 2, 3);
            first("ab" + stop + "\tcd", 2, 3);
            first("ab" + stop + "\ncd", 2, 3);
            first("ab" + stop, 1, 3);
            first("ab" + stop + "cd", 1, 5);
            first(stop + " cd", 2, 1);
            first(stop, 1, 1);
            first(stop + " " + stop, 2, 1);
        }
        first("ab .cd", 1, 6);
        first("ab . cd", 2, 4);
    }

    private static void closers() {
        Check.sentence(STOP);
        for (int octet = 0; octet < 256; octet++) {
            boolean closes = octet == '.' || octet == '!' || octet == '?' || octet == ')' || octet == '"';
            boolean blank = isBlank(octet);
            first("ab!" + one(octet) + " cd", closes || blank ? 2 : 1, blank ? 3 : closes ? 4 : 7);
            first("ab!" + one(octet), 1, blank ? 3 : 4);
            first("ab!" + one(octet) + ") cd", closes || blank ? 2 : 1, blank ? 3 : closes ? 5 : 8);
        }
        first("ab.!?)\"\")).. cd", 2, 12);
        first("ab.!?)\"\")).x cd", 1, 15);
        first("ab)\" cd", 1, 7);
        first("ab).\" cd", 2, 5);
        first(".".repeat(600), 1, 600);
        first("a!" + ")".repeat(598), 1, 600);
        first("a!" + ")".repeat(596) + " b", 2, 598);
    }

    private static void initials() {
        Check.sentence("(but not by a . right behind a LETTER that has no LETTER right ahead of it, "
                + "with none of . ! ? ) \" right behind that .);");
        first("a. b", 1, 4);
        first("Z. b", 1, 4);
        first("x a. b", 1, 6);
        first("1a. b", 1, 5);
        first(".a. b", 1, 5);
        first("ab. c", 2, 3);
        first("abc. d", 2, 4);
        first(E + ". b", 1, 5);
        first("1" + E + ". b", 1, 6);
        first("a" + E + ". b", 2, 4);
        first(E + "a. b", 2, 4);
        first(E + E + ". b", 2, 5);
        first("\u00c3a. b", 1, 5);
        first("\u00a9a. b", 1, 5);
        first("\u00a9" + E + ". b", 1, 6);
        first("\u00c3" + E + ". b", 1, 6);
        first("a\u00c3. b", 2, 3);
        first("a\u00a9. b", 2, 3);
        first("a1. b", 2, 3);
        first("a . b", 2, 3);
        first("1. b", 2, 2);
        first(". b", 2, 1);
        first("a! b", 2, 2);
        first("a? b", 2, 2);
        for (String behind : new String[] {".", "!", "?", ")", "\""}) {
            first("a." + behind + " b", 2, 3);
            first(E + "." + behind + "\tb", 2, 4);
            first("a." + behind + "b c", 1, 6);
        }
        first("a.' b", 1, 5);
        first("a.", 1, 2);
        first("a.\tb.\nc. d", 1, 10);
        first("a. b. cd. e", 2, 9);
        first("e.g. f", 1, 6);
        first("a. " + ". b", 2, 4);
    }

    private static void emptyLines() {
        Check.sentence("or ahead of a byte 10 behind which, BLANKS 9, 32 aside, a 10 comes;");
        for (int octet = 0; octet < 256; octet++) {
            boolean stop = octet == '.' || octet == '!' || octet == '?';
            boolean blank = isBlank(octet);
            first("ab\n" + one(octet) + "\ncd", blank || stop ? 2 : 1, blank ? 2 : stop ? 4 : 7);
        }
        first("ab\n\ncd", 2, 2);
        first("ab\n\n\n\ncd", 2, 2);
        first("ab\n \t \t\ncd", 2, 2);
        first("ab\n" + " ".repeat(500) + "\ncd", 2, 2);
        first("ab\ncd\n\nef", 2, 5);
        first("ab\ncd", 1, 5);
        first("ab\n \tcd", 1, 7);
        first("ab \tcd", 1, 6);
        first("ab\n\n", 1, 2);
        first("ab\n \t", 1, 2);
        first("\n\nab", 1, 2);
        first("ab.\n\ncd", 2, 3);
        first("a.\n\nb", 2, 2);
        first("a.\nb", 1, 4);
        first("ab\n\n.", 2, 2);
        Check.equal("no third between two empty lines", page("ab\n\n \n\ncd").count(3), 2);
    }

    private static void pageEnd() {
        Check.sentence("or at the page's end.");
        first("a", 1, 1);
        first("ab cd", 1, 5);
        first("ab.cd", 1, 5);
        first("\u00c3", 1, 1);
        first(E, 1, 2);
        first("a".repeat(600), 1, 600);
        PassagePicker picker = page("ab. cd");
        Check.equal("the second goes to the page's end", picker.sentence(1, 1), 2);
    }

    private static void blanksAtTheEnd() {
        Check.sentence("(BLANKS at its end are not in it.)");
        first("ab ", 1, 2);
        first("ab\t", 1, 2);
        first("ab\n", 1, 2);
        first("ab \t\n \t ", 1, 2);
        first("a" + " ".repeat(599), 1, 1);
        first("ab \t \n\ncd", 2, 2);
        first("ab \u000b ", 1, 4);
        PassagePicker picker = page(E + " \n \n" + E + "  ");
        Check.equal("signs without them", picker.sentence(0, 2), 1);
        Check.equal("signs of the last without them", picker.sentence(1, 2), 1);
    }

    private static void wordsOfSentences() {
        Check.sentence("A WORD is of the SENTENCE in which it lies; of none behind the 14th.");
        PassagePicker picker = page("a b! (c)\n\nd e? - !");
        int[] due = {0, 0, 1, 2, 2};
        for (int w = 0; w < due.length; w++) {
            Check.equal("the sentence of word " + w, picker.word(w, 3), due[w]);
        }
        Check.equal("words of the first", picker.sentence(0, 4), 2);
        Check.equal("words of the last", picker.sentence(3, 4), 0);
        Check.equal("its first word", picker.sentence(3, 3), -1);
        PassagePicker many = Check.picker("x! ".repeat(13) + "y z! w. v", "item 1 w; item 1 z;");
        Check.equal("in the fourteenth", many.word(14, 3), 13);
        Check.equal("words of the fourteenth", many.sentence(13, 4), 2);
        Check.equal("behind the fourteenth", many.word(15, 3), -1);
        Check.equal("far behind the fourteenth", many.word(16, 3), -1);
        Check.equal("no match behind the fourteenth", many.word(15, 4), 0);
        Check.equal("a match in the fourteenth", many.item(1, 4), 1 << 13);
        Check.equal("words of all", many.count(2), 17);
        Check.equal("a fourteenth to the page's end", page("x! ".repeat(13) + "y z").word(14, 3), 13);
    }
}
