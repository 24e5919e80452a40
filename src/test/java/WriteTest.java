/** Promises 32 to 35: quote, write, octet, marks. */
public final class WriteTest {
    public static void main(String[] args) {
        quotes();
        quoteOverSentences();
        whole();
        joints();
        cuts();
        oddCuts();
        escapes();
        merged();
        nested();
        longest();
        wrongNumbers();
        Check.finish();
    }

    private static void quote(PassagePicker picker, int n, String due, int strong, int soft) {
        Check.equal("quote(" + n + ")", picker.quote(n), due.length());
        written(picker, "quoted by " + n, due, strong, soft);
    }

    private static void write(PassagePicker picker, int n, String due, int strong, int soft) {
        Check.equal("write(" + n + ")", picker.write(n), due.length());
        written(picker, "written by " + n, due, strong, soft);
    }

    private static void written(PassagePicker picker, String what, String due, int strong, int soft) {
        Check.equal(what, Check.written(picker), due);
        Check.equal("bytes " + what, picker.count(12), due.length());
        Check.equal("octet behind what is " + what, picker.octet(due.length()), -1);
        Check.equal("octet(-1)", picker.octet(-1), -1);
        Check.equal("strong marks " + what, picker.marks(true), strong);
        Check.equal("soft marks " + what, picker.marks(false), soft);
    }

    private static void quotes() {
        PassagePicker picker = Samples.picker();
        quote(picker, 2, "", 0, 0);
        quote(picker, 3, "..<s>fox</s>..", 1, 0);
        quote(picker, 7, "..<t>red </t><s><t>fox</t></s>..", 1, 2);
        quote(picker, 18, "..<t>red </t><s><t>fox</t></s> ran. A <s>fox</s>..", 2, 2);
        quote(picker, 600, "..<t>red </t><s><t>fox</t></s> ran. A <s>fox</s> saw the <s>dog</s>! <s>Dogs</s> run.\n\n"
                + "J. is &lt;red&gt; &amp; <t>old</t>", 4, 3);
        quote(picker, 1, "", 0, 0);
        PassagePicker all = Check.picker("(fox a ox)", "item 2 fox; item 1 ox;");
        quote(all, 600, "<s>fox</s> a <s>ox</s>", 2, 0);
        quote(all, 4, "<s>fox</s>..", 1, 0);
        quote(Check.picker("a ox", "item 1 ox;"), 4, "..<s>ox</s>", 1, 0);
    }

    private static void quoteOverSentences() {
        quote(Check.picker("a fox\n\nfox b", "item 1 fox;"), 600, "..<s>fox</s>\n\n<s>fox</s>..", 2, 0);
        quote(Check.picker("a fox\nfox b", "item 1 soft fox;"), 600, "..<t>fox\nfox</t>..", 0, 1);
        PassagePicker cut = Check.picker("aa bb cc", "item 9 aa; item 1 aa bb cc;");
        quote(cut, 7, "<s>aa</s>..", 1, 0);
        quote(cut, 8, "<s>aa bb cc</s>", 1, 0);
        PassagePicker beyond = Check.picker("No! ".repeat(15), "item 1 no;");
        quote(beyond, 2, "<s>No</s>..", 1, 0);
        quote(beyond, 600, "<s>No</s>! <s>No</s>! <s>No</s>..", 3, 0);
    }

    private static void whole() {
        PassagePicker picker = Samples.picker();
        write(picker, 600, "", 0, 0);
        picker.choose(0);
        write(picker, 600, "The <t>red </t><s><t>fox</t></s> ran.", 1, 2);
        picker.choose(1);
        write(picker, 18, "The <t>red </t><s><t>fox</t></s> ran. A <s>fox</s> saw the <s>dog</s>!", 3, 2);
        picker.drop(0);
        picker.drop(1);
        write(picker, 600, "", 0, 0);
        Check.equal("octet(0) of nothing", picker.octet(0), -1);
    }

    private static void joints() {
        PassagePicker picker = Samples.picker();
        picker.choose(2);
        picker.choose(0);
        write(picker, 600, "The <t>red </t><s><t>fox</t></s> ran. .. <s>Dogs</s> run.", 2, 2);
        picker.choose(3);
        write(picker, 600, "The <t>red </t><s><t>fox</t></s> ran. .. <s>Dogs</s> run. "
                + "J. is &lt;red&gt; &amp; <t>old</t>.", 2, 3);
    }

    private static void cuts() {
        PassagePicker picker = Samples.picker();
        picker.choose(0);
        write(picker, 10, "..<t>red </t><s><t>fox</t></s>..", 1, 2);
        picker.choose(1);
        write(picker, 10, "..<t>red </t><s><t>fox</t></s> .. <s>fox</s>..", 2, 2);
        write(picker, 15, "..<t>red </t><s><t>fox</t></s> .. <s>fox</s> saw the <s>dog</s>!", 3, 2);
        write(picker, 16, "The <t>red </t><s><t>fox</t></s> ran. .. <s>fox</s> saw the <s>dog</s>!", 3, 2);
        picker.drop(0);
        picker.choose(2);
        write(picker, 15, "..<s>fox</s> saw the <s>dog</s>! <s>Dogs</s> run.", 3, 0);
        write(picker, 10, "..<s>fox</s> .. <s>Dogs</s> run.", 2, 0);
        picker.choose(3);
        write(picker, 10, "..<s>fox</s> .. <s>Dogs</s> run. .. <t>old</t>.", 2, 1);
        PassagePicker plain = Check.picker("\"Aaaa bbbb cccc\" dd. Ee.", "");
        plain.choose(0);
        write(plain, 10, "&quot;Aaaa bbbb..", 0, 0);
        plain.choose(1);
        write(plain, 10, "&quot;Aaaa bbbb .. Ee.", 0, 0);
    }

    private static void oddCuts() {
        PassagePicker picker = Check.picker("Aa. abcdefghijk bb. Cc.", "");
        picker.choose(0);
        picker.choose(1);
        picker.choose(2);
        write(picker, 10, "Aa. .. Cc.", 0, 0);
        write(picker, 11, "Aa. abcdefghijk .. Cc.", 0, 0);
        PassagePicker round = Check.picker("((((((((aa)))))))). ...! ...........", "item 1 aa;");
        round.choose(0);
        write(round, 10, "((((((((<s>aa</s>)))))))).", 1, 0);
        round.choose(1);
        round.choose(2);
        write(round, 10, "((((((((<s>aa</s>)))))))). ...!", 1, 0);
        write(round, 11, "((((((((<s>aa</s>)))))))). ...! ...........", 1, 0);
        PassagePicker half = Check.picker("aa bb cc dd ee ff gg.", "item 9 aa; item 1 aa bb cc dd;");
        half.choose(0);
        write(half, 10, "<s>aa</s>..", 1, 0);
        write(half, 11, "<s>aa bb cc dd</s>..", 1, 0);
    }

    private static void escapes() {
        PassagePicker picker = Check.picker("<a>&\"b\" 'c' \u00c3\u00a9\u00ff\u0000;", "item 1 b; item 1 soft a b;");
        picker.choose(0);
        write(picker, 600, "&lt;<t>a&gt;&amp;&quot;</t><s><t>b</t></s>&quot; 'c' \u00c3\u00a9\u00ff\u0000;", 1, 2);
    }

    private static void marks(String page, String query, String due, int strong, int soft) {
        PassagePicker picker = Check.picker(page, query);
        picker.choose(0);
        write(picker, 600, due, strong, soft);
    }

    private static void merged() {
        marks("aa bb.", "item 1 aa; item 1 bb;", "<s>aa bb</s>.", 1, 0);
        marks("aa \t\nbb.", "item 1 soft aa; item 1 soft bb;", "<t>aa \t\nbb</t>.", 0, 1);
        marks("a b c.", "item 1 a; item 1 b; item 1 soft b; item 1 soft c;", "<s>a <t>b</t></s><t> c</t>.", 1, 2);
        marks("aa, bb.", "item 1 aa; item 1 bb;", "<s>aa</s>, <s>bb</s>.", 2, 0);
        marks("aa, bb cc.", "item 1 aa bb; item 1 bb cc;", "<s>aa, bb cc</s>.", 1, 0);
        marks("aa aa aa.", "item 1 aa aa;", "<s>aa aa aa</s>.", 1, 0);
        marks("aa bb cc.", "item 1 aa bb cc; item 1 bb;", "<s>aa bb cc</s>.", 1, 0);
        marks("aa bb cc.", "item 1 aa; item 1 cc;", "<s>aa</s> bb <s>cc</s>.", 2, 0);
        PassagePicker two = Check.picker("aa bb\n\naa bb", "item 1 aa; item 1 bb;");
        two.tell(2, 100);
        two.choose(0);
        two.choose(1);
        write(two, 600, "<s>aa bb</s> <s>aa bb</s>", 2, 0);
    }

    private static void nested() {
        marks("aa bb.", "item 1 aa; item 1 soft aa;", "<s><t>aa</t></s> bb.", 1, 1);
        marks("aa bb.", "item 1 aa bb; item 1 soft aa;", "<s><t>aa</t> bb</s>.", 1, 1);
        marks("aa bb.", "item 1 aa bb; item 1 soft bb;", "<s>aa <t>bb</t></s>.", 1, 1);
        marks("aa bb cc.", "item 1 aa bb cc; item 1 soft bb;", "<s>aa <t>bb</t> cc</s>.", 1, 1);
        marks("aa bb.", "item 1 soft aa bb; item 1 aa;", "<s><t>aa</t></s><t> bb</t>.", 1, 2);
        marks("aa bb.", "item 1 soft aa bb; item 1 bb;", "<t>aa </t><s><t>bb</t></s>.", 1, 2);
        marks("aa bb cc.", "item 1 soft aa bb cc; item 1 bb;",
                "<t>aa </t><s><t>bb</t></s><t> cc</t>.", 1, 3);
        marks("aa bb cc.", "item 1 aa bb; item 1 soft bb cc;",
                "<s>aa <t>bb</t></s><t> cc</t>.", 1, 2);
        marks("aa bb cc.", "item 1 soft aa bb; item 1 bb cc;",
                "<t>aa </t><s><t>bb</t> cc</s>.", 1, 2);
        marks("aa,bb.", "item 1 soft aa bb; item 1 aa; item 1 bb;",
                "<s><t>aa</t></s><t>,</t><s><t>bb</t></s>.", 2, 3);
        marks("aa bb.", "item 1 aa; item 1 soft bb;", "<s>aa</s> <t>bb</t>.", 1, 1);
    }

    private static void longest() {
        // A hundred words of one letter with a quotation mark behind each, marked over one another.
        String page = "a\"b\"".repeat(50) + "\"".repeat(400);
        StringBuilder due = new StringBuilder();
        for (int w = 0; w < 100; w++) {
            due.append(w == 0 ? "" : "<t>&quot;</t>").append("<s><t>").append(w % 2 == 0 ? "a" : "b").append("</t></s>");
        }
        due.append("&quot;".repeat(401));
        PassagePicker once = longest(page);
        Check.equal("bytes of the longest", once.count(12), due.length());
        Check.equal("its strong marks", once.marks(true), 100);
        Check.equal("its soft marks", once.marks(false), 199);
        Check.equal("the longest", Check.longWritten(() -> longest(page)), due.toString());
    }

    private static PassagePicker longest(String page) {
        PassagePicker picker = Check.picker(page, "item 1 a; item 1 b; item 1 soft a b; item 1 soft b a;");
        picker.tell(0, 700);
        picker.choose(0);
        picker.write(600);
        return picker;
    }

    private static void wrongNumbers() {
        PassagePicker picker = Samples.picker();
        picker.quote(7);
        int bytes = picker.count(12);
        for (int n : new int[] {0, 601, -1, Integer.MIN_VALUE}) {
            Check.throwing("quote(" + n + ")", IllegalArgumentException.class, () -> picker.quote(n));
        }
        for (int n : new int[] {9, 601, -1, Integer.MAX_VALUE}) {
            Check.throwing("write(" + n + ")", IllegalArgumentException.class, () -> picker.write(n));
        }
        Check.equal("what was written stays", picker.count(12), bytes);
        Check.equal("and its marks", picker.marks(false), 2);
        Check.equal("a quote leaves the chosen", picker.count(9), 0);
    }
}
