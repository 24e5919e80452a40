/** Terms, part 2: the edges of items, terms and matches, and of the query's text. */
public final class QueryEdgesTest {
    private static final String ITEM = "a WEIGHT 1 to 9, STRONG or SOFT, 1 to 4 TERMS:";
    private static final String TERM = "1 to 12 letters a to z, ended by * or not.";
    private static final String MATCH = "A MATCH of an ITEM: WORDS of one SENTENCE, one behind another, as many as TERMS, "
            + "each of which FITS its one.";

    private static final String E = "\u00c3\u00a9";
    private static final String TWELVE = "abcdefghijkl";

    public static void main(String[] args) {
        items();
        weights();
        strongOrSoft();
        termsOfAnItem();
        lettersOfATerm();
        fullQuery();
        fits();
        matches();
        matchesOfOneSentence();
        numbers();
        texts();
        wordsOfTheText();
        softIsNoTerm();
        stars();
        blanks();
        thingsThatCannotStand();
        numbersAndTermsThatCannotStand();
        moreMustCome();
        nothingComes();
        Check.finish();
    }

    private static void right(String text, int items) {
        PassagePicker picker = new PassagePicker();
        Check.feed(picker, text);
        Check.equal("query [" + text + "]", Check.answer(picker::query), "" + items);
        Check.equal("fault of [" + text + "]", picker.fault(), -1);
        Check.equal("items of [" + text + "]", picker.count(4), items);
    }

    private static void fault(String text, int due) {
        PassagePicker picker = new PassagePicker();
        Check.feed(picker, text);
        Check.throwing("query [" + text + "]", IllegalArgumentException.class, picker::query);
        Check.equal("fault of [" + text + "]", picker.fault(), due);
        Check.equal("items of [" + text + "]", picker.count(4), 0);
    }

    private static PassagePicker query(String text) {
        PassagePicker picker = new PassagePicker();
        Check.query(picker, text);
        return picker;
    }

    private static void items() {
        Check.sentence("ITEMS, at most 8, numbered from 0 on:");
        for (int size = 0; size <= 8; size++) {
            right("item 1 a;".repeat(size), size);
            PassagePicker picker = query("item 1 a;".repeat(size));
            Check.indices("item of " + size, size, i -> picker.item(i, 0));
        }
        fault("item 1 a;".repeat(9), 72);
        fault("item 1 a;".repeat(20), 72);
        PassagePicker eight = query("item 1 a;item 2 a;item 3 a;item 4 a;item 5 a;item 6 a;item 7 a;item 8 a;");
        for (int item = 0; item < 8; item++) {
            Check.equal("weight of item " + item, eight.item(item, 0), item + 1);
        }
        Check.indices("item behind fewer", Check.query(eight, "item 9 a;"), i -> eight.item(i, 0));
    }

    private static void weights() {
        Check.sentence(ITEM);
        fault("item 0 a;", 5);
        for (int weight = 1; weight <= 9; weight++) {
            Check.equal("WEIGHT", query("item " + weight + " a;").item(0, 0), weight);
            Check.equal("WEIGHT of one match", Check.picker("a", "item " + weight + " a;").count(11), weight * 10);
        }
        fault("item 10 a;", 5);
        fault("item -1 a;", 5);
        fault("item / a;", 5);
        fault("item : a;", 5);
        fault("item a;", 5);
    }

    private static void strongOrSoft() {
        Check.sentence(ITEM);
        PassagePicker picker = query("item 1 a; item 1 soft a; item 1 a; item 1 soft a; item 1 a; item 1 a; item 1 a; "
                + "item 1 soft a;");
        int[] strong = {1, 0, 1, 0, 1, 1, 1, 0};
        for (int item = 0; item < 8; item++) {
            Check.equal("STRONG " + item, picker.item(item, 1), strong[item]);
        }
    }

    private static void termsOfAnItem() {
        Check.sentence(ITEM);
        fault("item 1 ;", 7);
        fault("item 1 soft;", 11);
        String[] terms = {"a", "a b", "a b c", "a b c d"};
        for (int size = 1; size <= 4; size++) {
            Check.equal("TERMS of [" + terms[size - 1] + "]", query("item 1 " + terms[size - 1] + ";").item(0, 2), size);
            Check.equal("soft TERMS", query("item 1 soft " + terms[size - 1] + ";").item(0, 2), size);
        }
        fault("item 1 a b c d e;", 15);
        fault("item 1 soft a b c d e;", 20);
        PassagePicker picker = Check.picker("a b c d", "item 1 a b c d;");
        for (int term = 0; term < 4; term++) {
            for (int word = 0; word < 4; word++) {
                Check.equal("fits(0, " + term + ", " + word + ")", picker.fits(0, term, word) ? 1 : 0, term == word ? 1 : 0);
            }
        }
        Check.no("no fifth TERM", picker.fits(0, 4, 0));
    }

    private static void lettersOfATerm() {
        Check.sentence(TERM);
        String letters = "abcdefghijklmnopqrstuvwxyz";
        for (int size = 1; size <= 26; size++) {
            String term = letters.substring(0, size);
            if (size <= 12) {
                right("item 1 " + term + ";", 1);
                right("item 1 " + term + "*;", 1);
                Check.yes("fits " + term, Check.picker(term, "item 1 " + term + ";").fits(0, 0, 0));
            } else {
                fault("item 1 " + term + ";", 7);
                fault("item 1 " + term + "*;", 7);
                fault("item 1 " + term, 7);
            }
        }
        fault("item 1 *;", 7);
        for (int octet = 0; octet < 256; octet++) {
            String text = "item 1 " + (char) octet + ";";
            boolean blank = octet == 9 || octet == 10 || octet == 32;
            if (octet >= 'a' && octet <= 'z') {
                right(text, 1);
            } else {
                fault(text, blank ? 8 : 7);
            }
        }
    }

    // Thirty-two terms of twelve letters, of which the last two differ.
    private static String[] thirtyTwoTerms() {
        String[] terms = new String[32];
        for (int k = 0; k < 32; k++) {
            terms[k] = "abcdefghij" + (char) ('a' + k / 16) + (char) ('a' + k % 16);
        }
        return terms;
    }

    private static void fullQuery() {
        Check.sentence(TERM);
        String[] terms = thirtyTwoTerms();
        StringBuilder text = new StringBuilder();
        for (int item = 0; item < 8; item++) {
            text.append("item 9 ");
            for (int k = 4 * item; k < 4 * item + 4; k++) {
                text.append(terms[k]).append(k % 3 == 0 ? "* " : " ");
            }
            text.append(";");
        }
        PassagePicker picker = Check.picker(String.join(" ", terms), text.toString());
        Check.equal("matches of the fullest query", picker.count(5), 8);
        for (int k = 0; k < 32; k++) {
            Check.yes("fits " + k, picker.fits(k / 4, k % 4, k));
            Check.no("fits the next of " + k, picker.fits(k / 4, k % 4, (k + 1) % 32));
            Check.no("fits the sixteenth from " + k, picker.fits(k / 4, k % 4, (k + 16) % 32));
        }
        StringBuilder longer = new StringBuilder();
        for (String term : terms) {
            longer.append(term).append("x ");
        }
        Check.page(picker, longer.toString());
        for (int k = 0; k < 32; k++) {
            Check.equal("fits a longer one, " + k, picker.fits(k / 4, k % 4, k) ? 1 : 0, k % 3 == 0 ? 1 : 0);
        }
    }

    private static void fits() {
        Check.sentence("A TERM FITS a WORD that is ALIKE, with * one whose beginning is.");
        String[] words = {"ab", "abc", "abcd", "ABC", "aBcD", "abd", "xabc", "abc" + E, "ab" + E, "a", E, "bc"};
        boolean[] alike = {false, true, false, true, false, false, false, false, false, false, false, false};
        boolean[] begins = {false, true, true, true, true, false, false, true, false, false, false, false};
        PassagePicker picker = Check.picker(String.join(" ", words), "item 1 abc; item 1 abc*;");
        for (int w = 0; w < words.length; w++) {
            Check.equal("abc fits " + words[w], picker.fits(0, 0, w) ? 1 : 0, alike[w] ? 1 : 0);
            Check.equal("abc* fits " + words[w], picker.fits(1, 0, w) ? 1 : 0, begins[w] ? 1 : 0);
            Check.equal("items of " + words[w], picker.word(w, 4), (alike[w] ? 1 : 0) + (begins[w] ? 2 : 0));
        }
        PassagePicker far = Check.picker("a".repeat(600), "item 1 a; item 1 a*; item 1 " + "a".repeat(12) + "*;");
        Check.equal("a word of 600 letters", far.word(0, 4), 6);
        PassagePicker letters = Check.picker("A Z az AZ", "item 1 a; item 1 z; item 1 az;");
        Check.equal("A", letters.word(0, 4), 1);
        Check.equal("Z", letters.word(1, 4), 2);
        Check.equal("AZ", letters.word(3, 4), 4);
    }

    private static void matches() {
        Check.sentence(MATCH);
        Check.equal("just as many", Check.picker("a b c d", "item 1 a b c d;").count(5), 1);
        Check.equal("one too few", Check.picker("a b c", "item 1 a b c d;").count(5), 0);
        Check.equal("not one behind another", Check.picker("a x b", "item 1 a b;").count(5), 0);
        Check.equal("in another order", Check.picker("b a", "item 1 a b;").count(5), 0);
        Check.equal("the last does not fit", Check.picker("a b c x", "item 1 a b c d;").count(5), 0);
        Check.equal("the first does not fit", Check.picker("x b c d", "item 1 a b c d;").count(5), 0);
        Check.equal("other signs between", Check.picker("a -1- b\n(c)", "item 1 a b c;").count(5), 1);
        Check.equal("one over another", Check.picker("a a a a", "item 1 a a;").count(5), 3);
        Check.equal("a word in two of one ITEM", Check.picker("a a a", "item 1 a a;").word(1, 4), 1);
        Check.equal("a word in four of one ITEM", Check.picker("a a a a a a a", "item 1 a a a a;").word(3, 4), 1);
        Check.equal("no words", Check.picker("", "item 1 a;").count(5), 0);
        Check.equal("no items", Check.picker("a", "").count(5), 0);
        PassagePicker hundred = Check.picker("x ".repeat(98) + "a b a b", "item 1 a b; item 1 b a;");
        Check.equal("the last two of a hundred", hundred.item(0, 3), 1);
        Check.equal("not the hundredth and the next", hundred.item(1, 3), 0);
    }

    private static void matchesOfOneSentence() {
        Check.sentence(MATCH);
        PassagePicker border = Check.picker("a b! c a! b", "item 1 a b; item 1 b c; item 1 c a; item 1 a b c;");
        Check.equal("to a sentence's last word", border.item(0, 3), 1);
        Check.equal("not over a border", border.item(1, 3), 0);
        Check.equal("from a sentence's first word", border.item(2, 3), 1);
        Check.equal("not over a border, three", border.item(3, 3), 0);
        PassagePicker many = Check.picker("x! ".repeat(13) + "a b! a b", "item 1 a b; item 1 b a;");
        Check.equal("in the fourteenth sentence", many.item(0, 3), 1);
        Check.equal("not from it to what is behind", many.item(1, 3), 0);
        Check.equal("not behind it", many.item(0, 4), 1 << 13);
        Check.yes("though a TERM fits there", many.fits(0, 0, 15));
    }

    private static void numbers() {
        Check.sentence("MATCHES are numbered by their first WORDS, then by ITEMS.");
        PassagePicker full = Check.picker("a ".repeat(100), "item 1 a;".repeat(8));
        Check.equal("matches of a hundred words and eight items", full.count(5), 800);
        Check.indices("match", 800, m -> full.match(m, 0));
        for (int match : new int[] {0, 1, 7, 8, 9, 399, 792, 798, 799}) {
            Check.equal("ITEM of " + match, full.match(match, 0), match % 8);
            Check.equal("first WORD of " + match, full.match(match, 1), match / 8);
            Check.equal("last WORD of " + match, full.match(match, 2), match / 8);
        }
        PassagePicker four = Check.picker("a a a a", "item 1 a a a a; item 1 a; item 1 a a;");
        int[][] due = {{0, 0, 3}, {1, 0, 0}, {2, 0, 1}, {1, 1, 1}, {2, 1, 2}, {1, 2, 2}, {2, 2, 3}, {1, 3, 3}};
        Check.equal("matches", four.count(5), due.length);
        for (int match = 0; match < due.length; match++) {
            for (int what = 0; what < 3; what++) {
                Check.equal("match(" + match + ", " + what + ")", four.match(match, what), due[match][what]);
            }
        }
        PassagePicker none = Check.picker("a", "item 1 b;");
        Check.indices("match of none", 0, m -> none.match(m, 0));
    }

    private static void texts() {
        Check.sentence("THE QUERY is a text: { ITEM }; ITEM: item WEIGHT [ soft ] TERM { TERM } ;");
        right("", 0);
        right("\n", 0);
        right("item 1 a;", 1);
        right("item 9 soft a b c d;", 1);
        right("item 1 a;item 2 soft b;", 2);
        right(" ".repeat(591) + "item 1 a;", 1);
        right("item 1 a;" + " ".repeat(591), 1);
        right("item 1 " + " ".repeat(591) + "a;", 1);
        fault("item 1 a b", 10);
        fault("1 a;", 0);
        fault("item a 1;", 5);
        fault("item 1 a; 1 b;", 10);
        fault("item soft 1 a;", 5);
        fault("item 1 a; ;", 10);
    }

    private static void wordsOfTheText() {
        Check.sentence("(The words item and soft as long as a to z go on;");
        fault("items 1 a;", 0);
        fault("itema1 a;", 0);
        fault("ite 1 a;", 0);
        fault("ite", 0);
        fault("i", 0);
        fault("it em 1 a;", 0);
        fault("jtem 1 a;", 0);
        fault("itel 1 a;", 0);
        fault("Item 1 a;", 0);
        fault("itEm 1 a;", 0);
        fault("item 1 a; items 1 a;", 10);
        right("item1 a;", 1);
        Check.equal("sof", query("item 1 sof a;").item(0, 1), 1);
        Check.equal("softs", query("item 1 softs a;").item(0, 1), 1);
        Check.equal("softs is a TERM", query("item 1 softs a;").item(0, 2), 2);
        Check.equal("sofu", query("item 1 sofu;").item(0, 1), 1);
        Check.equal("soft", query("item 1 soft a;").item(0, 1), 0);
        Check.equal("1soft", query("item 1soft a;").item(0, 1), 0);
        fault("item 1 sofT a;", 10);
        fault("item 1 softA a;", 11);
    }

    private static void softIsNoTerm() {
        Check.sentence("soft as the first word behind WEIGHT is no TERM;");
        fault("item 1 soft;", 11);
        fault("item 1 soft", 11);
        fault("item 1 soft*;", 11);
        fault("item 1 soft *;", 12);
        Check.equal("TERMS", query("item 1 soft soft;").item(0, 2), 1);
        Check.equal("SOFT", query("item 1 soft soft;").item(0, 1), 0);
        Check.yes("the second is a TERM", Check.picker("soft", "item 1 soft soft;").fits(0, 0, 0));
        Check.yes("with * too", Check.picker("softer", "item 1 soft soft*;").fits(0, 0, 0));
        Check.equal("soft behind a TERM is one", query("item 1 a soft;").item(0, 2), 2);
        Check.equal("STRONG", query("item 1 a soft;").item(0, 1), 1);
        Check.equal("item is a TERM", query("item 1 item item;").item(0, 2), 2);
        Check.equal("four behind soft", query("item 1 soft a b c soft;").item(0, 2), 4);
        fault("item 1 soft a b c d soft;", 20);
    }

    private static void stars() {
        Check.sentence("a TERM has its * right behind it;");
        right("item 1 a*;", 1);
        right("item 1 a* ;", 1);
        fault("item 1 a *;", 9);
        fault("item 1 a\n*;", 9);
        fault("item 1 a**;", 9);
        fault("item 1 a* *;", 10);
        fault("item 1 *a;", 7);
        fault("item 1 a;*", 9);
        fault("item* 1 a;", 4);
        fault("item 1* a;", 6);
        Check.yes("its own * alone", Check.picker("ab bc", "item 1 a* b;").fits(0, 0, 0));
        Check.no("not the next one's", Check.picker("ab bc", "item 1 a* b;").fits(0, 1, 1));
        Check.no("nor the one's ahead", Check.picker("ab bc", "item 1 a b*;").fits(0, 0, 0));
    }

    private static void blanks() {
        Check.sentence("BLANKS may be between all, and must be between words.)");
        for (String blank : new String[] {" ", "\t", "\n", " \t\n "}) {
            String[] things = {"", "item", "1", "soft", "a*", "b", ";", "item", "9", "c", ";", ""};
            right(String.join(blank, things), 2);
            right("item" + blank + "1a" + blank + "b;", 1);
        }
        right("item1soft a*b*c*d;item2a;", 2);
        Check.equal("TERMS", query("item1soft a*b*c*d;").item(0, 2), 4);
        Check.equal("two words are one without", query("item 1 ab;").item(0, 2), 1);
        Check.equal("two words are two with", query("item 1 a b;").item(0, 2), 2);
        Check.equal("softa is one word", query("item 1 softa;").item(0, 1), 1);
        fault("item 1 a\u000bb;", 8);
        fault("item 1 a\rb;", 8);
        fault("item 1 a\u0000b;", 8);
        fault("\u000bitem 1 a;", 0);
    }

    private static void thingsThatCannotStand() {
        Check.sentence("FAULT: the first byte with which no such text goes on: the begin of a thing that cannot stand there");
        fault("x", 0);
        fault(" \n\tx", 3);
        fault("item x", 5);
        fault("item ;", 5);
        fault("item item 1 a;", 5);
        fault("item 1 1 a;", 7);
        fault("item 1 a 1;", 9);
        fault("item 1 a, b;", 8);
        fault("item 1 a;b;", 9);
        fault("item 1 \u00c3\u00a9;", 7);
        fault("item 1 a\u00c3\u00a9;", 8);
        fault("item 1 aB;", 8);
        fault("item 1 a1;", 8);
        fault("item 1 a; \u0000", 10);
        fault("item item 1 a; x", 5);
        fault("item 1 a b c d item 1 e; x", 15);
        fault("item 1 2 item 0 a;", 7);
        fault("x item 0 a; item 1", 0);
        fault("x".repeat(600), 0);
        fault(" ".repeat(599) + "x", 599);
        fault("item 1 a;".repeat(8) + "x", 72);
        fault("item 1 a;".repeat(8) + ";", 72);
    }

    private static void numbersAndTermsThatCannotStand() {
        Check.sentence("(a number of two digits and more, or 0; a TERM of 13 letters and more; the fifth TERM; "
                + "a ninth ITEM at its word item),");
        for (String number : new String[] {"0", "00", "01", "10", "11", "19", "90", "99", "100", "123456789012"}) {
            fault("item " + number + " a;", 5);
            fault("item " + number, 5);
            fault("item 1 a;item " + number + " a;", 14);
        }
        right("item 1/a;".replace('/', ' '), 1);
        fault("item 1/a;", 6);
        fault("item 1:a;", 6);
        fault("item 1 " + TWELVE + "m;", 7);
        fault("item 1 soft " + TWELVE + "m;", 12);
        fault("item 1 a " + TWELVE + "m;", 9);
        fault("item 1 a b c " + TWELVE + "m;", 13);
        fault("item 1 " + "a".repeat(593), 7);
        right("item 1 " + TWELVE + " " + TWELVE + " " + TWELVE + " " + TWELVE + ";", 1);
        fault("item 1 a b c d e;", 15);
        fault("item 1 a b c d e", 15);
        fault("item 1 a*b*c*d*e;", 15);
        fault("item 1 a b c d\n\n" + TWELVE + "m;", 16);
        fault("item 1 a b c d*;item 1 a b c d e;", 31);
        fault("item 1 a;".repeat(8) + "item", 72);
        fault("item 1 a;".repeat(8) + " \t\nitem 1 a;", 75);
        fault("item 1 a;".repeat(8) + "item 0 a;", 72);
    }

    private static void moreMustCome() {
        Check.sentence("or the text's length, if more must come.");
        String text = "item 1 soft a* b c d;";
        for (int cut : new int[] {4, 5, 6, 7, 11, 12, 13, 14, 15, 16, 17, 18, 19, 20}) {
            fault(text.substring(0, cut), cut);
            fault("item 2 z;" + text.substring(0, cut), 9 + cut);
        }
        right(text, 1);
        right(text.substring(0, 0), 0);
        fault("item \t\n", 7);
        fault("item 1 a" + " ".repeat(592), 600);
        fault("item 1 " + "a ".repeat(4) + " ".repeat(585), 600);
        fault("item" + " ".repeat(596), 600);
        fault(" ".repeat(596) + "item", 600);
        fault(" ".repeat(594) + "item 1", 600);
    }

    private static void nothingComes() {
        Check.sentence("Of a text with a FAULT nothing comes.");
        PassagePicker picker = Samples.picker();
        Check.feed(picker, "item 9 soft saw; item 8 run;" + "item 7 a b c d e;");
        Check.throwing("a query with a fault behind two items", IllegalArgumentException.class, picker::query);
        Check.equal("items", picker.count(4), 4);
        Check.equal("matches", picker.count(5), 6);
        Check.equal("WEIGHT", picker.item(0, 0), 5);
        Check.equal("STRONG", picker.item(0, 1), 1);
        Check.equal("TERMS", picker.item(1, 2), 2);
        Check.yes("the first TERM", picker.fits(0, 0, 2));
        Check.no("not the new one", picker.fits(0, 0, 6));
        Check.equal("WORTH of all", picker.count(11), 131);
    }
}
