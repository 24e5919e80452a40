import java.util.NoSuchElementException;

/** Promises 4 and 8 to 11: page, sign, signOf, word, sentence. */
public final class PageTest {
    public static void main(String[] args) {
        signs();
        pairs();
        words();
        hundredWords();
        borders();
        initials();
        emptyLines();
        fourteenSentences();
        sentences();
        sentencesOfAQuery();
        newPage();
        Check.finish();
    }

    private static void signs() {
        PassagePicker picker = new PassagePicker();
        Check.page(picker, "a\u00c3\u00a9\u00c3\u00c3\u00a9\u00a9\u00c3 \u00ff\u00bf\u00c0\u007f");
        int[] begins = {0, 1, 3, 4, 6, 7, 8, 9, 11, 12};
        Check.equal("signs", picker.count(1), begins.length);
        for (int k = 0; k < begins.length; k++) {
            Check.equal("sign(" + k + ")", picker.sign(k), begins[k]);
        }
        int[] of = {0, 1, 1, 2, 3, 3, 4, 5, 6, 7, 7, 8, 9};
        for (int i = 0; i < of.length; i++) {
            Check.equal("signOf(" + i + ")", picker.signOf(i), of[i]);
        }
        Check.equal("sign behind all", picker.sign(10), -1);
        Check.equal("sign(-1)", picker.sign(-1), -1);
        Check.equal("signOf behind all", picker.signOf(13), -1);
        Check.equal("signOf(-1)", picker.signOf(-1), -1);
        Check.equal("signOf of the greatest", picker.signOf(Integer.MAX_VALUE), -1);
        Check.equal("words of pairs", picker.count(2), 3);
        Check.equal("the first word ends ahead of a lone byte", picker.word(0, 1), 3);
        Check.equal("its signs", picker.word(0, 2), 2);
        Check.equal("a pair behind a lone byte", picker.word(1, 0), 4);
    }

    private static void pairs() {
        int[][] due = {{192, 128, 1}, {192, 191, 1}, {255, 128, 1}, {255, 191, 1}, {191, 128, 2}, {191, 191, 2},
            {192, 127, 2}, {192, 192, 2}, {255, 192, 2}, {128, 192, 2}};
        for (int[] row : due) {
            PassagePicker picker = new PassagePicker();
            Check.page(picker, "" + (char) row[0] + (char) row[1]);
            Check.equal("signs of " + row[0] + " " + row[1], picker.count(1), row[2]);
            Check.equal("words of " + row[0] + " " + row[1], picker.count(2), row[2] == 1 ? 1 : 0);
        }
        PassagePicker letters = new PassagePicker();
        Check.page(letters, "azAZ Azaz @ [ ` { 0");
        Check.equal("letters from a to z", letters.count(2), 2);
        Check.equal("A to Z like a to z", letters.word(1, 5), 0);
        Check.page(letters, "\u00c3\u0080 \u00c3\u00a0 \u00c3\u0080");
        Check.equal("pairs are alike if they are one", letters.count(10), 2);
    }

    private static void words() {
        PassagePicker picker = Check.picker("Fox f1ox FOX\u00c3\u00a9 (fox) fox\u00c3\u00a9 fOX",
                "item 1 fox; item 2 fox*;");
        Check.equal("words", picker.count(2), 7);
        int[] alike = {0, 1, 2, 3, 0, 3, 0};
        for (int w = 0; w < alike.length; w++) {
            Check.equal("alike " + w, picker.word(w, 5), alike[w]);
        }
        Check.equal("unlike words", picker.count(10), 4);
        Check.equal("begin", picker.word(3, 0), 9);
        Check.equal("bytes", picker.word(3, 1), 5);
        Check.equal("signs", picker.word(3, 2), 4);
        Check.equal("sentence", picker.word(3, 3), 0);
        Check.equal("items of fox", picker.word(0, 4), 3);
        Check.equal("items of a longer one", picker.word(3, 4), 2);
        Check.equal("items of another one", picker.word(1, 4), 0);
        Check.throwing("no word", IndexOutOfBoundsException.class, () -> picker.word(7, 9));
        Check.throwing("word -1", IndexOutOfBoundsException.class, () -> picker.word(-1, 0));
        Check.throwing("word, what 6", NoSuchElementException.class, () -> picker.word(0, 6));
        Check.throwing("word, what -1", NoSuchElementException.class, () -> picker.word(0, -1));
    }

    private static void hundredWords() {
        PassagePicker picker = Check.picker("ab ".repeat(99) + "x! y! z zz. w", "item 1 y; item 2 x; item 3 z*;");
        Check.equal("words", picker.count(2), 100);
        Check.equal("the hundredth", picker.word(99, 1), 1);
        Check.equal("matches of the first hundred alone", picker.count(5), 1);
        Check.equal("sentences", picker.count(3), 4);
        Check.equal("a sentence of words beyond", picker.sentence(1, 3), -1);
        Check.equal("its words", picker.sentence(1, 4), 0);
        Check.equal("its unlike ones", picker.sentence(1, 5), 0);
        Check.equal("nothing in common", picker.common(1, 2), 0);
        Check.throwing("word 100", IndexOutOfBoundsException.class, () -> picker.word(100, 0));
    }

    private static void same(String page, String due) {
        Check.equal("sentences of [" + page + "]", Check.sentences(page), due);
    }

    private static void borders() {
        same("", "");
        same(" \t\n", "");
        same("One two. Three", "One two.|Three");
        same("One two! Three? Four.", "One two!|Three?|Four.");
        same("One.two three.", "One.two three.");
        same("He (so.) \"Oh?!\" ... no.)\" x", "He (so.)|\"Oh?!\"|...|no.)\"|x");
        same("One.'x two. x", "One.'x two.|x");
        same("One.\ttwo.\nthree", "One.|two.|three");
        same("  One two  \t\n", "One two");
        same(". a", ".|a");
        same("so) no", "so) no");
        same("so.)no so.", "so.)no so.");
        same("3. 4", "3.|4");
    }

    private static void initials() {
        same("J. Doe", "J. Doe");
        same("J! Doe", "J!|Doe");
        same("J? Doe", "J?|Doe");
        same("J.. Doe", "J..|Doe");
        same("J.) Doe", "J.)|Doe");
        same("J.\" Doe", "J.\"|Doe");
        same("JR. Doe", "JR.|Doe");
        same("e.g. this", "e.g. this");
        same("1a. b", "1a. b");
        same("\u00c3\u00a9. b", "\u00c3\u00a9. b");
        same("a\u00c3\u00a9. b", "a\u00c3\u00a9.|b");
        same("\u00c3\u00a9\u00c3\u00a9. b", "\u00c3\u00a9\u00c3\u00a9.|b");
        same("\u00c3a. b", "\u00c3a. b");
        same("\u00a9. b", "\u00a9.|b");
        same("ab J.", "ab J.");
    }

    private static void emptyLines() {
        same("One\n\ntwo", "One|two");
        same("One \t\n \t \n two", "One|two");
        same("One\ntwo", "One\ntwo");
        same("One\n.\n\ntwo", "One\n.|two");
        same("J.\n\nDoe", "J.|Doe");
        same("One\n \n", "One");
        same("One \n x\n\t\n y", "One \n x|y");
    }

    private static void fourteenSentences() {
        String page = "No! ".repeat(16);
        PassagePicker picker = Check.picker(page, "item 1 no; item 1 no no;");
        Check.equal("sentences", picker.count(3), 14);
        Check.equal("words", picker.count(2), 16);
        Check.equal("matches in sentences alone", picker.count(5), 14);
        Check.equal("the last one", picker.word(13, 3), 13);
        Check.equal("of none", picker.word(14, 3), -1);
        Check.equal("no item of none", picker.word(14, 4), 0);
        Check.yes("a term fits all the same", picker.fits(0, 0, 15));
        Check.throwing("no fifteenth", IndexOutOfBoundsException.class, () -> picker.sentence(14, 0));
    }

    private static void sentences() {
        PassagePicker picker = Samples.picker();
        int[][] due = {
            {0, 16, 16, 0, 4, 4, 3, 80, 80, 1, 1},
            {17, 18, 18, 4, 5, 5, 5, 70, 70, 1, 0},
            {36, 9, 9, 9, 2, 2, 4, 20, 20, 1, -1},
            {47, 18, 18, 11, 4, 4, 8, 10, 10, 1, 0}};
        for (int s = 0; s < 4; s++) {
            for (int what = 0; what <= 10; what++) {
                Check.equal("sentence(" + s + ", " + what + ")", picker.sentence(s, what), due[s][what]);
            }
        }
        Check.throwing("no sentence", IndexOutOfBoundsException.class, () -> picker.sentence(4, 11));
        Check.throwing("sentence -1", IndexOutOfBoundsException.class, () -> picker.sentence(-1, 0));
        Check.throwing("sentence, what 11", NoSuchElementException.class, () -> picker.sentence(0, 11));
        Check.throwing("sentence, what -1", NoSuchElementException.class, () -> picker.sentence(3, -1));
    }

    private static void sentencesOfAQuery() {
        PassagePicker picker = Samples.picker();
        picker.choose(0);
        Check.equal("no gain of one that is chosen", picker.sentence(0, 8), 0);
        Check.equal("which may not be chosen again", picker.sentence(0, 9), 0);
        Check.equal("gain to it", picker.sentence(1, 8), 35);
        Check.equal("another may be chosen", picker.sentence(1, 9), 1);
        picker.tell(0, 30);
        picker.choose(0);
        Check.equal("gain although it may not", picker.sentence(1, 8), 35);
        Check.equal("it may not", picker.sentence(1, 9), 0);
        PassagePicker pairs = new PassagePicker();
        Check.page(pairs, "C\u00c3\u00a9 b c\u00c3\u00a9. . B?");
        Check.equal("bytes", pairs.sentence(0, 1), 10);
        Check.equal("signs", pairs.sentence(0, 2), 8);
        Check.equal("unlike words", pairs.sentence(0, 5), 2);
        Check.equal("no first word", pairs.sentence(1, 3), -1);
        Check.equal("the first with the most in common", pairs.sentence(2, 10), 0);
        Check.equal("no echo", pairs.sentence(1, 10), -1);
    }

    private static void newPage() {
        PassagePicker picker = Samples.picker();
        picker.take(true);
        picker.write(600);
        int bytes = picker.count(12);
        Check.equal("sentences", Check.page(picker, "A dog. Dogs!"), 2);
        Check.equal("items stay", picker.count(4), 4);
        Check.equal("matches are found anew", picker.count(5), 2);
        Check.equal("none is chosen", picker.count(9), 0);
        Check.equal("what was written stays", picker.count(12), bytes);
        Check.equal("the best is sought anew", picker.choice(true), 3);
        Check.page(picker, "... Aa bb cc.");
        Check.equal("signs", picker.count(1), 13);
        Check.equal("the first has no word", picker.sentence(0, 3), -1);
        Check.equal("nor any", picker.sentence(0, 4), 0);
        Check.equal("nothing in common", picker.common(0, 1), 0);
        Check.page(picker, "No! Aa.");
        Check.equal("words of the second", picker.sentence(1, 4), 1);
        Check.equal("unlike ones", picker.sentence(1, 5), 1);
        Check.equal("its first word", picker.sentence(1, 3), 1);
        Check.equal("no second word", picker.word(1, 3), 1);
        Check.equal("no sign beyond", picker.sign(7), -1);
    }
}
