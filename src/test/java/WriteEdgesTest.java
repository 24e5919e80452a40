/** Terms, part 5: the edges of what is written and quoted, and of marks. */
public final class WriteEdgesTest {
    private static final String E = "\u00c3\u00a9";
    private static final String LEFT_OUT = "of one that is cut .. stands at each side where WORDS of it are left out, in place "
            + "of all that is ahead of the first WORD that is not, or behind the last one; at another side it stands from its "
            + "beginning, to its end.";
    private static final String BETWEEN = "Between two that are written a BLANK 32, if the second is the next SENTENCE, and "
            + "neither is left out of at that side; else 32 and .. and 32 (in place of what .. there would be at these sides).";
    private static final String MARKS = "MARKS: STRONG ones are laid over MATCHES of STRONG ITEMS, SOFT ones over those of SOFT "
            + "ones, all WORDS of which are written: from its first WORD to its last one.";
    private static final String NESTED = "<s> is never within <t>: where a STRONG one begins or ends within a SOFT one, </t> "
            + "stands ahead of that, <t> behind it (where both begin or end, <t> is within; nothing empty is written).";
    /** Three of fourteen signs each. */
    private static final String THREE = "aaaaaa bbbbbb! cccccc dddddd! eeeeee ffffff!";

    public static void main(String[] args) {
        chosenByNumbers();
        withoutACut();
        leftOut();
        between();
        betweenCuts();
        escapes();
        quotes();
        quotesAtTheEnds();
        marks();
        oneMark();
        oneSentence();
        nested();
        nestedInSeveral();
        noSignSplit();
        Check.finish();
    }

    private static PassagePicker chosen(String page, String query, int... sentences) {
        PassagePicker picker = Check.picker(page, query);
        picker.tell(0, 700);
        picker.tell(1, 6);
        picker.tell(2, 100);
        for (int s : sentences) {
            picker.choose(s);
        }
        return picker;
    }

    private static int begins(String text, String mark) {
        return (text.length() - text.replace(mark, "").length()) / mark.length();
    }

    private static void written(String what, PassagePicker picker, int bytes, String due) {
        Check.equal(what + ": bytes", bytes, due.length());
        Check.equal(what, Check.written(picker), due);
        Check.equal(what + ": bytes counted", picker.count(12), due.length());
        Check.equal(what + ": STRONG marks", picker.marks(true), begins(due, "<s>"));
        Check.equal(what + ": SOFT marks", picker.marks(false), begins(due, "<t>"));
        Check.nones(what + ": octet", due.length(), picker::octet);
    }

    private static void write(PassagePicker picker, int n, String due) {
        written("write(" + n + ")", picker, picker.write(n), due);
    }

    // The first sentence of a page, however long it is written.
    private static void longWrite(String page, String query, String due) {
        PassagePicker once = chosen(page, query, 0);
        Check.equal("bytes of what is long", once.write(600), due.length());
        Check.equal("its bytes counted", once.count(12), due.length());
        Check.equal("its STRONG marks", once.marks(true), begins(due, "<s>"));
        Check.equal("its SOFT marks", once.marks(false), begins(due, "<t>"));
        Check.nones("its octets", due.length(), once::octet);
        Check.equal("what is long", Check.longWritten(() -> {
            PassagePicker picker = chosen(page, query, 0);
            picker.write(600);
            return picker;
        }), due);
    }

    private static void quote(PassagePicker picker, int n, String due) {
        written("quote(" + n + ")", picker, picker.quote(n), due);
    }

    private static void chosenByNumbers() {
        Check.sentence("WRITTEN: SENTENCES of CHOSEN by numbers, each CUT by n (10 to 600; those without a CUT aside):");
        write(new PassagePicker(), 10, "");
        write(new PassagePicker(), 600, "");
        PassagePicker picker = chosen("aa! bb! cc!", "", 2, 0, 1);
        write(picker, 10, "aa! bb! cc!");
        picker.drop(0);
        picker.drop(1);
        picker.drop(2);
        write(picker, 10, "");
        PassagePicker ten = chosen("aa bb 123! aa bb 1234!", "item 1 bb;", 0, 1);
        write(ten, 10, "aa <s>bb</s> 123! .. <s>bb</s> 1234!");
        write(ten, 11, "aa <s>bb</s> 123! aa <s>bb</s> 1234!");
        PassagePicker full = chosen("a" + "1".repeat(598) + "b", "", 0);
        write(full, 599, "a..");
        longWrite("a" + "1".repeat(598) + "b", "", "a" + "1".repeat(598) + "b");
        Check.numbers("write", 10, 600, full::write);
        PassagePicker all = chosen("a! ".repeat(14), "", 13, 8, 9, 10, 11, 12);
        write(all, 10, "a! a! a! a! a! a!");
    }

    private static void withoutACut() {
        Check.sentence("WRITTEN: SENTENCES of CHOSEN by numbers, each CUT by n (10 to 600; those without a CUT aside):");
        String page = "Aa! abcdefghijk lm! Bb! - - - - - -! Cc!";
        write(chosen(page, "", 1), 10, "");
        write(chosen(page, "", 1), 11, "abcdefghijk..");
        write(chosen(page, "", 3), 11, "");
        write(chosen(page, "", 3), 12, "- - - - - -!");
        write(chosen(page, "item 1 lm; item 1 soft cc;", 3), 12, "- - - - - -!");
        write(chosen(page, "item 1 lm; item 1 soft cc;", 2, 3, 4), 12, "Bb! - - - - - -! <t>Cc</t>!");
        write(chosen(page, "", 0, 1), 10, "Aa!");
        write(chosen(page, "", 1, 2), 10, "Bb!");
        write(chosen(page, "", 0, 1, 2), 10, "Aa! .. Bb!");
        write(chosen(page, "", 0, 1, 2), 11, "Aa! abcdefghijk .. Bb!");
        write(chosen(page, "", 0, 1, 2, 3, 4), 10, "Aa! .. Bb! .. Cc!");
        write(chosen(page, "", 0, 1, 2, 3, 4), 600, page);
        write(chosen(page, "item 1 lm;", 0, 1, 2), 10, "Aa! .. <s>lm</s>! Bb!");
    }

    private static void leftOut() {
        Check.sentence(LEFT_OUT);
        String page = "(aa) bb cc - dd!";
        write(chosen(page, "item 1 aa;", 0), 10, "(<s>aa</s>..");
        write(chosen(page, "item 1 bb;", 0), 10, "..<s>bb</s>..");
        write(chosen(page, "item 1 dd;", 0), 10, "..<s>dd</s>!");
        write(chosen(page, "item 1 bb; item 1 cc;", 0), 15, "..<s>bb cc</s>..");
        write(chosen(page, "item 1 aa; item 1 dd;", 0), 13, "(<s>aa</s>..");
        write(chosen(page, "item 1 aa; item 1 dd;", 0), 14, "(<s>aa</s>) bb cc - <s>dd</s>!");
        write(chosen(page, "item 1 aa; item 1 dd;", 0), 16, "(<s>aa</s>) bb cc - <s>dd</s>!");
        write(chosen(page, "", 0), 10, "(aa) bb cc..");
        write(chosen(page, "", 0), 13, "(aa) bb cc..");
        write(chosen(page, "", 0), 14, "(aa) bb cc - dd!");
        write(chosen("--------- aa!", "", 0), 10, "--------- aa!");
        write(chosen("aa ---------!", "", 0), 10, "aa ---------!");
        write(chosen(E + E + E + E + " " + E + E + E + E + E + " " + E, "", 0), 10,
                E + E + E + E + " " + E + E + E + E + E + "..");
    }

    private static void between() {
        Check.sentence(BETWEEN);
        write(chosen("aa!\n\n\tbb!  cc! dd!", "", 0, 1), 600, "aa! bb!");
        write(chosen("aa!\n\n\tbb!  cc! dd!", "", 0, 2), 600, "aa! .. cc!");
        write(chosen("aa!\n\n\tbb!  cc! dd!", "", 0, 3), 600, "aa! .. dd!");
        write(chosen("aa!\n\n\tbb!  cc! dd!", "", 0, 1, 3), 600, "aa! bb! .. dd!");
        write(chosen("aa!\n\n\tbb!  cc! dd!", "", 0, 2, 3), 600, "aa! .. cc! dd!");
        write(chosen("aa!\n\n\tbb!  cc! dd!", "", 1, 2), 600, "bb! cc!");
        write(chosen("aa!\n\n\tbb!  cc! dd!", "", 3), 600, "dd!");
        write(chosen("aa\n\nbb", "", 0, 1), 600, "aa bb");
    }

    private static void betweenCuts() {
        Check.sentence(BETWEEN);
        write(chosen(THREE, "item 1 aaaaaa; item 1 dddddd;", 0, 1), 10, "<s>aaaaaa</s> .. <s>dddddd</s>!");
        write(chosen(THREE, "item 1 bbbbbb; item 1 cccccc;", 0, 1), 10, "..<s>bbbbbb</s>! <s>cccccc</s>..");
        write(chosen(THREE, "item 1 bbbbbb; item 1 dddddd;", 0, 1), 10, "..<s>bbbbbb</s>! .. <s>dddddd</s>!");
        write(chosen(THREE, "item 1 aaaaaa; item 1 cccccc;", 0, 1), 10, "<s>aaaaaa</s> .. <s>cccccc</s>..");
        write(chosen(THREE, "item 1 bbbbbb; item 1 eeeeee;", 0, 2), 10, "..<s>bbbbbb</s>! .. <s>eeeeee</s>..");
        write(chosen(THREE, "item 1 aaaaaa; item 1 ffffff;", 0, 2), 10, "<s>aaaaaa</s> .. <s>ffffff</s>!");
        write(chosen(THREE, "item 1 bbbbbb; item 1 dddddd; item 1 eeeeee;", 0, 1, 2), 10,
                "..<s>bbbbbb</s>! .. <s>dddddd</s>! <s>eeeeee</s>..");
        write(chosen(THREE, "item 1 bbbbbb;", 0, 1, 2), 14, "aaaaaa <s>bbbbbb</s>! cccccc dddddd! eeeeee ffffff!");
        write(chosen(THREE, "item 1 bbbbbb;", 0, 1, 2), 13, "..<s>bbbbbb</s>! cccccc dddddd! eeeeee ffffff!");
    }

    private static void escapes() {
        Check.sentence("< > & \" stand as &lt; &gt; &amp; &quot;.");
        for (int octet = 0; octet < 256; octet++) {
            String due = octet == '<' ? "&lt;" : octet == '>' ? "&gt;" : octet == '&' ? "&amp;"
                    : octet == '"' ? "&quot;" : String.valueOf((char) octet);
            write(chosen("x" + (char) octet + "x", "", 0), 600, "x" + due + "x");
        }
        longWrite("\"".repeat(600), "", "&quot;".repeat(600));
        quote(Check.picker("<a> & <a>", "item 1 a;"), 600, "<s>a</s>&gt; &amp; &lt;<s>a</s>");
    }

    private static void quotes() {
        Check.sentence("QUOTED by n: WIDEST by n is written, from its first WORD to its last one, .. at each side where there "
                + "are WORDS beyond; nothing without one.");
        PassagePicker picker = Check.picker("aa bb cc", "item 3 aa; item 2 bb;");
        quote(picker, 1, "");
        quote(picker, 2, "<s>aa</s>..");
        quote(picker, 4, "<s>aa</s>..");
        quote(picker, 5, "<s>aa bb</s>..");
        quote(picker, 600, "<s>aa bb</s>..");
        Check.query(picker, "item 1 cc;");
        quote(picker, 600, "..<s>cc</s>");
        Check.query(picker, "item 1 bb;");
        quote(picker, 600, "..<s>bb</s>..");
        Check.query(picker, "item 1 aa; item 1 cc;");
        quote(picker, 8, "<s>aa</s> bb <s>cc</s>");
        quote(picker, 7, "<s>aa</s>..");
        Check.query(picker, "");
        quote(picker, 600, "");
        Check.query(picker, "item 1 aa;");
        picker.choose(0);
        picker.write(600);
        Check.query(picker, "item 1 xx;");
        quote(picker, 600, "");
        quote(new PassagePicker(), 1, "");
        Check.numbers("quote", 1, 600, picker::quote);
    }

    private static void quotesAtTheEnds() {
        Check.sentence("QUOTED by n: WIDEST by n is written, from its first WORD to its last one, .. at each side where there "
                + "are WORDS beyond; nothing without one.");
        quote(Check.picker("(- aa -)", "item 1 aa;"), 600, "<s>aa</s>");
        quote(Check.picker("1 2! aa! 3 4", "item 1 aa;"), 600, "<s>aa</s>");
        quote(Check.picker("a ".repeat(98) + "b c d", "item 1 c;"), 600, "..<s>c</s>");
        quote(Check.picker("a ".repeat(98) + "b c d", "item 1 b;"), 600, "..<s>b</s>..");
        quote(Check.picker("a ".repeat(98) + "b c d", "item 1 d;"), 600, "");
        quote(Check.picker("x! ".repeat(13) + "a! y", "item 1 a;"), 600, "..<s>a</s>..");
        quote(Check.picker("x! ".repeat(14) + "a! y", "item 1 a;"), 600, "");
        quote(Check.picker("aa! xx! aa!", "item 1 aa;"), 600, "<s>aa</s>! xx! <s>aa</s>");
        String middle = "1".repeat(598);
        quote(Check.picker("a" + middle + "b", "item 1 a; item 1 b;"), 599, "<s>a</s>..");
        Check.equal("quote(600)", Check.longWritten(() -> {
            PassagePicker picker = Check.picker("a" + middle + "b", "item 1 a; item 1 b;");
            picker.quote(600);
            return picker;
        }), "<s>a</s>" + middle + "<s>b</s>");
    }

    private static void marks() {
        Check.sentence(MARKS);
        write(chosen("aa bb cc!", "item 1 bb;", 0), 600, "aa <s>bb</s> cc!");
        write(chosen("aa bb cc!", "item 1 soft bb;", 0), 600, "aa <t>bb</t> cc!");
        write(chosen("aa, (bb) cc!", "item 1 aa bb;", 0), 600, "<s>aa, (bb</s>) cc!");
        write(chosen("aa bb cc!", "item 1 xx;", 0), 600, "aa bb cc!");
        write(chosen("aa bb cc dd!", "item 1 aa bb cc dd;", 0), 600, "<s>aa bb cc dd</s>!");
        write(chosen("aa! aa!", "item 1 aa;", 0), 600, "<s>aa</s>!");
        write(chosen("a-b-c-d-e-f-g-h", "item 1 a;item 1 b;item 1 soft c;item 1 d;item 1 e;item 1 soft f;item 1 g;item 1 soft h;",
                0), 600, "<s>a</s>-<s>b</s>-<t>c</t>-<s>d</s>-<s>e</s>-<t>f</t>-<s>g</s>-<t>h</t>");
        PassagePicker cut = chosen("aa bb cc dd ee!", "item 9 aa; item 1 aa bb cc dd; item 1 soft bb cc dd ee;", 0);
        write(cut, 10, "<s>aa</s>..");
        write(cut, 11, "<s>aa bb cc dd</s>..");
        write(cut, 14, "<s>aa <t>bb cc dd</t></s><t> ee</t>!");
        quote(cut, 10, "<s>aa</s>..");
        quote(cut, 11, "<s>aa bb cc dd</s>..");
        quote(cut, 14, "<s>aa <t>bb cc dd</t></s><t> ee</t>");
        PassagePicker left = chosen("aa bb cc dd ee!", "item 9 ee; item 1 bb cc dd ee;", 0);
        write(left, 10, "..<s>ee</s>!");
        write(left, 11, "..<s>bb cc dd ee</s>!");
        PassagePicker twelve = chosen("aaaa bbbb cccc dd!", "item 1 soft bbbb cccc; item 9 dd;", 0);
        write(twelve, 11, "..<s>dd</s>!");
        write(twelve, 12, "..<t>bbbb cccc</t> <s>dd</s>!");
    }

    private static void oneMark() {
        Check.sentence("Those of one sort that overlap, or between which are BLANKS alone, are one.");
        for (int octet = 0; octet < 256; octet++) {
            String page = "aa" + (char) octet + "bb";
            boolean blank = octet == 9 || octet == 10 || octet == 32;
            boolean letter = octet >= 'a' && octet <= 'z' || octet >= 'A' && octet <= 'Z';
            int due = letter ? 0 : blank ? 1 : 2;
            for (String soft : new String[] {"", "soft "}) {
                PassagePicker picker = chosen(page, "item 1 " + soft + "aa; item 1 " + soft + "bb;", 0);
                picker.write(600);
                Check.equal("marks round byte " + octet, picker.marks(soft.isEmpty()), due);
                Check.equal("marks of the other sort", picker.marks(!soft.isEmpty()), 0);
            }
        }
        write(chosen("aa \t\n bb", "item 1 aa; item 1 bb;", 0), 600, "<s>aa \t\n bb</s>");
        write(chosen("aa , bb", "item 1 aa; item 1 bb;", 0), 600, "<s>aa</s> , <s>bb</s>");
        write(chosen("aa bb", "item 1 aa; item 1 soft bb;", 0), 600, "<s>aa</s> <t>bb</t>");
        write(chosen("aa xx bb", "item 1 aa; item 1 bb;", 0), 600, "<s>aa</s> xx <s>bb</s>");
        write(chosen("aa, bb; cc", "item 1 aa bb; item 1 bb cc;", 0), 600, "<s>aa, bb; cc</s>");
        write(chosen("aa, bb; cc", "item 1 soft aa bb; item 1 soft bb cc;", 0), 600, "<t>aa, bb; cc</t>");
        write(chosen("aa, bb; cc", "item 1 aa bb cc; item 1 bb;", 0), 600, "<s>aa, bb; cc</s>");
        write(chosen("aa, bb cc", "item 1 aa; item 1 bb; item 1 cc;", 0), 600, "<s>aa</s>, <s>bb cc</s>");
        write(chosen("a ".repeat(100) + "a!", "item 1 a;", 0), 600, "<s>" + "a ".repeat(99) + "a</s> a!");
    }

    private static void oneSentence() {
        Check.sentence("A STRONG MARK is written as <s> .. </s>, a SOFT one as <t> .. </t>; "
                + "none goes over more than one SENTENCE.");
        quote(Check.picker("aa\n\naa", "item 1 aa;"), 600, "<s>aa</s>\n\n<s>aa</s>");
        quote(Check.picker("aa\n \t\naa", "item 1 soft aa;"), 600, "<t>aa</t>\n \t\n<t>aa</t>");
        quote(Check.picker("aa\n\taa", "item 1 soft aa;"), 600, "<t>aa\n\taa</t>");
        quote(Check.picker("aa bb\n\naa bb", "item 1 aa; item 1 bb; item 1 soft bb;"), 600,
                "<s>aa <t>bb</t></s>\n\n<s>aa <t>bb</t></s>");
        write(chosen("aa\n\naa", "item 1 aa;", 0, 1), 600, "<s>aa</s> <s>aa</s>");
        write(chosen("aa\n\naa", "item 1 soft aa;", 0, 1), 600, "<t>aa</t> <t>aa</t>");
        write(chosen("aa\n\naa", "item 1 soft aa aa;", 0, 1), 600, "aa aa");
    }

    private static void nested(String page, String query, String due) {
        write(chosen(page, query, 0), 600, due);
    }

    private static void nested() {
        Check.sentence(NESTED);
        nested("aa bb cc", "item 1 bb; item 1 soft aa bb cc;", "<t>aa </t><s><t>bb</t></s><t> cc</t>");
        nested("aa bb cc", "item 1 aa; item 1 soft aa bb;", "<s><t>aa</t></s><t> bb</t> cc");
        nested("aa bb cc", "item 1 bb; item 1 soft aa bb;", "<t>aa </t><s><t>bb</t></s> cc");
        nested("aa bb cc", "item 1 aa bb; item 1 soft bb cc;", "<s>aa <t>bb</t></s><t> cc</t>");
        nested("aa bb cc", "item 1 bb cc; item 1 soft aa bb;", "<t>aa </t><s><t>bb</t> cc</s>");
        nested("aa bb cc", "item 1 aa bb cc; item 1 soft bb;", "<s>aa <t>bb</t> cc</s>");
        nested("aa bb cc", "item 1 aa bb; item 1 soft aa;", "<s><t>aa</t> bb</s> cc");
        nested("aa bb cc", "item 1 aa bb; item 1 soft bb;", "<s>aa <t>bb</t></s> cc");
        nested("aa bb cc", "item 1 aa bb cc; item 1 soft aa bb cc;", "<s><t>aa bb cc</t></s>");
        nested("aa", "item 1 aa; item 1 soft aa;", "<s><t>aa</t></s>");
        nested("aa bb", "item 1 aa; item 1 soft bb;", "<s>aa</s> <t>bb</t>");
        nested("aa bb", "item 1 bb; item 1 soft aa;", "<t>aa</t> <s>bb</s>");
    }

    private static void nestedInSeveral() {
        Check.sentence(NESTED);
        nested("aa, bb, cc", "item 1 aa; item 1 cc; item 1 soft aa bb cc;",
                "<s><t>aa</t></s><t>, bb, </t><s><t>cc</t></s>");
        nested("aa, bb", "item 1 aa; item 1 bb; item 1 soft aa bb;", "<s><t>aa</t></s><t>, </t><s><t>bb</t></s>");
        nested("aa, bb, cc", "item 1 soft aa; item 1 soft cc; item 1 aa bb cc;", "<s><t>aa</t>, bb, <t>cc</t></s>");
        nested("aa bb cc dd", "item 1 aa bb; item 1 cc dd; item 1 soft bb cc;", "<s>aa <t>bb cc</t> dd</s>");
        nested("aa bb cc dd", "item 1 soft aa bb; item 1 soft cc dd; item 1 bb cc;",
                "<t>aa </t><s><t>bb cc</t></s><t> dd</t>");
        nested("<aa> \"bb\" & cc", "item 1 bb; item 1 soft aa bb cc;",
                "&lt;<t>aa&gt; &quot;</t><s><t>bb</t></s><t>&quot; &amp; cc</t>");
        PassagePicker all = chosen("a ".repeat(100), "item 1 a; item 1 soft a;", 0);
        write(all, 600, "<s><t>" + "a ".repeat(99) + "a</t></s>");
        // As many marks and escapes as there can be.
        StringBuilder most = new StringBuilder("<s><t>a</t></s>");
        for (int w = 1; w < 100; w++) {
            most.append("<t>&quot;</t><s><t>a</t></s>");
        }
        longWrite("a\"".repeat(100) + "\"".repeat(400), "item 1 a; item 1 soft a a;", most + "&quot;".repeat(401));
    }

    private static void noSignSplit() {
        Check.sentence("no sign ever split.");
        String word = "f" + E + E;
        write(chosen(word + " " + word + "!", "item 1 f*;", 0), 600, "<s>" + word + " " + word + "</s>!");
        write(chosen(word + ", " + word + "!", "item 1 soft f*; item 1 f*;", 0), 600,
                "<s><t>" + word + "</t></s>, <s><t>" + word + "</t></s>!");
        write(chosen(E + word + " " + word + " " + E.repeat(12), "item 1 f*;", 0), 10, ".." + "<s>" + word + "</s>..");
        quote(Check.picker(E + " " + word + " " + E, "item 1 f*;"), 3, "..<s>" + word + "</s>..");
        quote(Check.picker(E + " " + word + " " + E, "item 1 f*;"), 2, "");
    }
}
