import java.util.NoSuchElementException;

/** Promises 5, 6, 12 to 14: query, fault, item, fits, match. */
public final class QueryTest {
    public static void main(String[] args) {
        right();
        faults();
        wrongChangesNothing();
        newQuery();
        items();
        fits();
        matches();
        Check.finish();
    }

    private static void right(String text, int items) {
        PassagePicker picker = new PassagePicker();
        Check.equal("items of [" + text + "]", Check.query(picker, text), items);
        Check.equal("no fault", picker.fault(), -1);
        Check.equal("count", picker.count(4), items);
    }

    private static void right() {
        right("", 0);
        right(" \n\t ", 0);
        right("item 1 a;", 1);
        right("item1a;item9soft soft;", 2);
        right("\titem\n1\tsoft\na*\tb ;\n", 1);
        right("item 1 a*b*c*d*;", 1);
        right("item 1 abcdefghijkl*;", 1);
        right("item 1 item soft itemsoft softer;", 1);
        right("item 1 softer;", 1);
        right("item 1 a;".repeat(8), 8);
        right("item 1 a;".repeat(8) + "  ", 8);
    }

    private static void fault(String text, int due) {
        PassagePicker picker = new PassagePicker();
        Check.feed(picker, text);
        Check.throwing("query [" + text + "]", IllegalArgumentException.class, picker::query);
        Check.equal("fault of [" + text + "]", picker.fault(), due);
        Check.equal("no items", picker.count(4), 0);
    }

    private static void faults() {
        fault("item", 4);
        fault("item  ", 6);
        fault("item 1", 6);
        fault("item 1 ", 7);
        fault("item 1 soft", 11);
        fault("item 1 a", 8);
        fault("item 1 a* ", 10);
        fault("x", 0);
        fault(" items 1 a;", 1);
        fault("ite", 0);
        fault("Item 1 a;", 0);
        fault("itemA", 4);
        fault("; item 1 a;", 0);
        fault("item 0 a;", 5);
        fault("item 12 a;", 5);
        fault("item 10 a;", 5);
        fault("item 19 a;", 5);
        fault("item : a;", 5);
        fault("item / a;", 5);
        fault("xtem 1 a;", 0);
        fault("iten 1 a;", 0);
        fault("item 01 a;", 5);
        fault("item -1 a;", 5);
        fault("item soft a;", 5);
        fault("item 1 2 a;", 7);
        fault("item 1 ;", 7);
        fault("item 1;", 6);
        fault("item 1 soft ;", 12);
        fault("item 1 soft;", 11);
        fault("item 1 soft* a;", 11);
        fault("item 1 * a;", 7);
        fault("item 1 a **;", 9);
        fault("item 1 a**;", 9);
        fault("item 1 aB;", 8);
        fault("item 1 a1;", 8);
        fault("item 1 \u00c3\u00a9;", 7);
        fault("item 1 abcdefghijklm;", 7);
        fault("item 1 a abcdefghijklm*;", 9);
        fault("item 1 a b c d e;", 15);
        fault("item 1 a b c d", 14);
        fault("item 1 a b c d*e;", 15);
        fault("item 1 a;;", 9);
        fault("item 1 a; item", 14);
        fault("item 1 a;".repeat(8) + " item 1 a;", 73);
        fault("item 1 a;".repeat(8) + "x", 72);
    }

    private static void wrongChangesNothing() {
        PassagePicker picker = Samples.picker();
        picker.choose(1);
        picker.write(600);
        int bytes = picker.count(12);
        Check.feed(picker, "item 7 dog; item");
        Check.throwing("a wrong query", IllegalArgumentException.class, picker::query);
        Check.equal("its fault", picker.fault(), 16);
        Check.equal("items stay", picker.count(4), 4);
        Check.equal("weights stay", picker.item(0, 0), 5);
        Check.yes("terms stay", picker.fits(0, 0, 2));
        Check.equal("matches stay", picker.count(5), 6);
        Check.equal("the chosen stay", picker.count(9), 2);
        Check.equal("what was written stays", picker.count(12), bytes);
        Check.query(picker, "item 7 dog;");
        Check.equal("no fault any more", picker.fault(), -1);
        Check.equal("the new query", picker.item(0, 0), 7);
        Check.equal("none is chosen", picker.count(9), 0);
        Check.equal("its matches", picker.count(5), 1);
        picker.page();
        Check.equal("page() leaves the fault", picker.fault(), -1);
    }

    private static void newQuery() {
        PassagePicker picker = Check.picker("aa bbb cc", "item 1 soft aa bbb; item 1 soft bb*;");
        Check.equal("soft", picker.item(0, 1), 0);
        Check.equal("items", Check.query(picker, "item 2 aa; item 3 bb; item 4 cccc; item 5 safe soft;"), 4);
        Check.equal("strong", picker.item(0, 1), 1);
        Check.equal("strong too", picker.item(1, 1), 1);
        Check.equal("a word like soft is a term", picker.item(3, 1), 1);
        Check.equal("soft behind it is one", picker.item(3, 2), 2);
        Check.no("no second term any more", picker.fits(0, 1, 1));
        Check.no("no star any more", picker.fits(1, 0, 1));
        Check.equal("no match of what was sought", picker.word(1, 4), 0);
        Check.equal("matches", picker.count(5), 1);
    }

    private static void items() {
        PassagePicker picker = Samples.picker();
        int[][] due = {{5, 1, 1, 2, 3}, {3, 0, 2, 1, 1}, {2, 1, 1, 2, 6}, {1, 0, 1, 1, 8}};
        for (int item = 0; item < 4; item++) {
            for (int what = 0; what <= 4; what++) {
                Check.equal("item(" + item + ", " + what + ")", picker.item(item, what), due[item][what]);
            }
        }
        Check.throwing("no item", IndexOutOfBoundsException.class, () -> picker.item(4, 5));
        Check.throwing("item -1", IndexOutOfBoundsException.class, () -> picker.item(-1, 0));
        Check.throwing("item, what 5", NoSuchElementException.class, () -> picker.item(0, 5));
        Check.throwing("item, what -1", NoSuchElementException.class, () -> picker.item(0, -1));
    }

    private static void fits() {
        PassagePicker picker = Check.picker("Fox foxes fo fox\u00c3\u00a9 FO\u00c3\u00a9",
                "item 1 fox; item 1 fox*; item 1 a fo*;");
        boolean[][] due = {{true, false, false, false, false}, {true, true, false, true, false},
            {true, true, true, true, true}};
        for (int word = 0; word < 5; word++) {
            for (int item = 0; item < 2; item++) {
                Check.equal("fits(" + item + ", 0, " + word + ")",
                        picker.fits(item, 0, word) ? 1 : 0, due[item][word] ? 1 : 0);
            }
            Check.no("fits(2, 0, " + word + ")", picker.fits(2, 0, word));
            Check.yes("fits(2, 1, " + word + ")", picker.fits(2, 1, word));
        }
        PassagePicker twelve = Check.picker("Abcdefghijkl abcdefghijklm", "item 1 abcdefghijkl;");
        Check.yes("a term of twelve letters", twelve.fits(0, 0, 0));
        Check.no("a word of thirteen", twelve.fits(0, 0, 1));
        Check.equal("its match", twelve.count(5), 1);
        Check.no("no such term", picker.fits(0, 1, 0));
        Check.no("term -1", picker.fits(0, -1, 0));
        Check.no("no second term, the next item's", picker.fits(1, 4, 0));
        Check.throwing("fits, no item", IndexOutOfBoundsException.class, () -> picker.fits(3, 9, 0) ? 1 : 0);
        Check.throwing("fits, no word", IndexOutOfBoundsException.class, () -> picker.fits(0, 9, 5) ? 1 : 0);
        Check.throwing("fits, word -1", IndexOutOfBoundsException.class, () -> picker.fits(0, 0, -1) ? 1 : 0);
    }

    private static void matches() {
        PassagePicker picker = Samples.picker();
        int[][] due = {{1, 1, 2}, {0, 2, 2}, {0, 5, 5}, {2, 8, 8}, {2, 9, 9}, {3, 14, 14}};
        for (int match = 0; match < due.length; match++) {
            for (int what = 0; what <= 2; what++) {
                Check.equal("match(" + match + ", " + what + ")", picker.match(match, what), due[match][what]);
            }
        }
        Check.throwing("no match", IndexOutOfBoundsException.class, () -> picker.match(6, 3));
        Check.throwing("match -1", IndexOutOfBoundsException.class, () -> picker.match(-1, 0));
        Check.throwing("match, what 3", NoSuchElementException.class, () -> picker.match(0, 3));
        Check.throwing("match, what -1", NoSuchElementException.class, () -> picker.match(0, -1));

        PassagePicker many = Check.picker("a a, a! A a", "item 1 a a; item 1 a; item 1 a a a;");
        Check.equal("matches overlap, but go over no border", many.count(5), 9);
        Check.equal("by items at one word", many.match(1, 0), 1);
        Check.equal("then the third", many.match(2, 0), 2);
        Check.equal("over a comma", many.match(2, 2), 2);
        Check.equal("items of a word in the midst", many.word(1, 4), 7);
        Check.equal("matches of the first item", many.item(0, 3), 3);
        Check.equal("its sentences", many.item(0, 4), 3);
        Check.equal("sentences of the third", many.item(2, 4), 1);
    }
}
