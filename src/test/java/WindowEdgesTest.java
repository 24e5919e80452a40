/** Terms, part 3: the edges of windows, of worth, and of what is cut. */
public final class WindowEdgesTest {
    private static final String MINIMAL = "MINIMAL for a set of ITEMS: a WINDOW that HAS them all, but without its first "
            + "WORD, or without its last one, it would not.";
    private static final String WIDEST = "WIDEST by n SIGNS: of all WINDOWS of a LENGTH n at most the one whose MATCHES "
            + "have the greatest WORTH, of several the least LENGTH, then the first; none, if that is 0.";

    private static final String E = "\u00c3\u00a9";
    private static final String EIGHT = "item 9 a;item 9 b;item 9 c;item 9 d;item 9 e;item 9 f;item 9 g;item 9 h;";

    public static void main(String[] args) {
        lengths();
        had();
        minimal();
        minimalOfMany();
        least();
        worth();
        widest();
        widestOfSeveral();
        cutWhole();
        cutToWidest();
        cutToTheBeginning();
        noCut();
        Check.finish();
    }

    private static void windows(PassagePicker picker, int set, int[]... due) {
        Check.equal("windows of " + set, picker.window(set, -1, 0), due.length);
        for (int k = 0; k < due.length; k++) {
            for (int what = 0; what < 3; what++) {
                Check.equal("window(" + set + ", " + k + ", " + what + ")", picker.window(set, k, what), due[k][what]);
            }
        }
        for (int k : new int[] {due.length, due.length + 1, -2, Integer.MIN_VALUE, Integer.MAX_VALUE}) {
            for (int what = 0; what < 3; what++) {
                Check.equal("window(" + set + ", " + k + ", " + what + ")", picker.window(set, k, what), -1);
            }
        }
    }

    private static void least(PassagePicker picker, int set, int first, int last, int length) {
        int[] due = {first, last, length};
        for (int what = 0; what < 3; what++) {
            Check.equal("least(" + set + ", " + what + ")", picker.least(set, what), due[what]);
        }
    }

    private static void widest(PassagePicker picker, int n, int first, int last, int length, int worth) {
        int[] due = {first, last, length, worth};
        for (int what = 0; what < 4; what++) {
            Check.equal("widest(" + n + ", " + what + ")", picker.widest(n, what), due[what]);
        }
    }

    private static void cut(PassagePicker picker, int sentence, int n, int first, int last, int whole) {
        int[] due = {first, last, whole};
        for (int what = 0; what < 3; what++) {
            Check.equal("cut(" + sentence + ", " + n + ", " + what + ")", picker.cut(sentence, n, what), due[what]);
        }
    }

    private static void lengths() {
        Check.sentence("A WINDOW: WORDS from one to another one. Its LENGTH: SIGNS from where the first begins "
                + "to where the last ends.");
        PassagePicker picker = Check.picker("(ab " + E + ", cd)", "item 1 ab; item 1 cd;");
        windows(picker, 1, new int[] {0, 0, 2});
        windows(picker, 3, new int[] {0, 2, 8});
        Check.equal("one sign too narrow", picker.most(7), 1);
        Check.equal("just wide enough", picker.most(8), 2);
        widest(picker, 7, 0, 0, 2, 10);
        widest(picker, 8, 0, 2, 8, 20);
        PassagePicker one = Check.picker("-a-", "item 1 a;");
        windows(one, 1, new int[] {0, 0, 1});
        PassagePicker over = Check.picker("aa!\n\n\u00a9 bb", "item 1 aa; item 1 bb;");
        windows(over, 3, new int[] {0, 1, 9});
        PassagePicker all = Check.picker("a" + " ".repeat(598) + "b", "item 1 a; item 1 b;");
        windows(all, 3, new int[] {0, 1, 600});
        PassagePicker pairs = Check.picker("a" + E.repeat(299), "item 1 a*;");
        windows(pairs, 1, new int[] {0, 0, 300});
    }

    private static void had() {
        Check.sentence("It HAS a MATCH all whose WORDS lie in it, an ITEM by one.");
        PassagePicker picker = Check.picker("a b c d", "item 1 a b c d; item 1 b c;");
        int[] most = {0, 0, 1, 1, 1, 1, 2, 2};
        int[] narrow = {1, 2, 3, 4, 5, 6, 7, 8};
        for (int k = 0; k < most.length; k++) {
            Check.equal("most(" + narrow[k] + ")", picker.most(narrow[k]), most[k]);
        }
        widest(picker, 2, -1, -1, -1, 0);
        widest(picker, 3, 1, 2, 3, 10);
        widest(picker, 6, 1, 2, 3, 10);
        widest(picker, 7, 0, 3, 7, 20);
        windows(picker, 1, new int[] {0, 3, 7});
        windows(picker, 2, new int[] {1, 2, 3});
        windows(picker, 3, new int[] {0, 3, 7});
        PassagePicker several = Check.picker("a a a", "item 1 a; item 1 b;");
        Check.equal("an ITEM with three MATCHES is one", several.most(5), 1);
        Check.equal("an ITEM with two MATCHES is one", several.most(4), 1);
        Check.equal("two MATCHES between two", Check.picker("b a a c", "item 1 a; item 1 b; item 1 c;").most(7), 3);
        PassagePicker hundred = Check.picker("a ".repeat(99) + "b", "item 1 a; item 1 b;");
        Check.equal("ITEMS of a hundred words", hundred.most(600), 2);
        Check.equal("ITEMS of the last two of them", hundred.most(3), 2);
    }

    private static void minimal() {
        Check.sentence(MINIMAL);
        PassagePicker picker = Check.picker("b a a b a", "item 1 a; item 1 b; item 1 a a; item 1 x;");
        windows(picker, 1, new int[] {1, 1, 1}, new int[] {2, 2, 1}, new int[] {4, 4, 1});
        windows(picker, 2, new int[] {0, 0, 1}, new int[] {3, 3, 1});
        windows(picker, 3, new int[] {0, 1, 3}, new int[] {2, 3, 3}, new int[] {3, 4, 3});
        windows(picker, 4, new int[] {1, 2, 3});
        windows(picker, 5, new int[] {1, 2, 3});
        windows(picker, 6, new int[] {0, 2, 5}, new int[] {1, 3, 5});
        windows(picker, 8);
        windows(picker, 9);
        windows(picker, 15);
        PassagePicker empty = Check.picker("", "item 1 a;");
        windows(empty, 1);
        PassagePicker like = Check.picker("a b", "item 1 a; item 1 a; item 1 a b;");
        windows(like, 3, new int[] {0, 0, 1});
        windows(like, 7, new int[] {0, 1, 3});
    }

    private static void minimalOfMany() {
        Check.sentence(MINIMAL);
        PassagePicker once = Check.picker("a b a", "item 1 a; item 1 b;");
        Check.equal("the second of one set", once.window(3, 1, 0), 1);
        Check.equal("the second of another one", once.window(1, 1, 0), 2);
        Check.equal("no second of a third one", once.window(2, 1, 0), -1);
        PassagePicker hundred = Check.picker("a ".repeat(101), "item 1 a; item 1 a a a a;");
        Check.equal("a hundred windows", hundred.window(1, -1, 2), 100);
        Check.equal("the last one", hundred.window(1, 99, 0), 99);
        Check.equal("none behind it", hundred.window(1, 100, 0), -1);
        Check.equal("windows of four words", hundred.window(3, -1, 0), 97);
        Check.equal("the last of these", hundred.window(2, 96, 1), 99);
        PassagePicker eight = Check.picker("a b c d e f g h a", EIGHT);
        windows(eight, 255, new int[] {0, 7, 15}, new int[] {1, 8, 15});
        windows(eight, 128, new int[] {7, 7, 1});
        windows(eight, 129, new int[] {0, 7, 15}, new int[] {7, 8, 3});
    }

    private static void least() {
        Check.sentence("LEAST for a set: of such the one with the least LENGTH, of several the first.");
        least(Check.picker("aaaaaaaa b x a c b", "item 1 a*; item 1 b;"), 3, 1, 3, 5);
        least(Check.picker("a " + E + E + E + " b ---------- a xxxx b", "item 1 a; item 1 b;"), 3, 0, 2, 7);
        least(Check.picker("a, b -- a b", "item 1 a; item 1 b;"), 3, 2, 3, 3);
        least(Check.picker("a b -- a b", "item 1 a; item 1 b;"), 3, 0, 1, 3);
        least(Check.picker("x x a", "item 1 a; item 1 b;"), 1, 2, 2, 1);
        least(Check.picker("x x a", "item 1 a; item 1 b;"), 2, -1, -1, -1);
        least(Check.picker("x x a", "item 1 a; item 1 b;"), 3, -1, -1, -1);
        least(Check.picker("", "item 1 a;"), 1, -1, -1, -1);
        least(Check.picker("x ".repeat(99) + "a a", "item 1 a;"), 1, 99, 99, 1);
        least(Check.picker("a b c d e f g h", EIGHT), 255, 0, 7, 15);
    }

    private static void worth() {
        Check.sentence("WORTH of some MATCHES: of each ITEM WEIGHT times 10 for one, 13 for two, 14 for three and more.");
        int[] times = {0, 10, 13, 14, 14, 14};
        for (int size = 0; size < times.length; size++) {
            for (int weight : new int[] {1, 7, 9}) {
                PassagePicker picker = Check.picker("x " + "a ".repeat(size), "item " + weight + " a;");
                Check.equal(size + " matches, of a page", picker.count(11), times[size] * weight);
                Check.equal(size + " matches, of a sentence", picker.sentence(0, 7), times[size] * weight);
                Check.equal(size + " matches, of a set", picker.set(1, 0), times[size] * weight);
                Check.equal(size + " matches, of a window", picker.widest(600, 3), times[size] * weight);
            }
        }
        PassagePicker hundred = Check.picker("a ".repeat(100), "item 9 a;".repeat(8));
        Check.equal("a hundred matches of eight items", hundred.count(11), 1008);
        PassagePicker each = Check.picker("a b a. c. a b.", "item 1 a; item 2 b; item 4 c; item 9 d;");
        Check.equal("of each item", each.count(11), 14 + 26 + 40);
        Check.equal("one more than 127 would go round a byte's sign",
                Check.picker("a ".repeat(100), "item 1 a; item 1 a*; item 1 a;").count(5), 300);
    }

    private static void widest() {
        Check.sentence(WIDEST);
        PassagePicker picker = Check.picker("x aa bb x", "item 1 aa; item 1 bb;");
        widest(picker, 1, -1, -1, -1, 0);
        widest(picker, 2, 1, 1, 2, 10);
        widest(picker, 4, 1, 1, 2, 10);
        widest(picker, 5, 1, 2, 5, 20);
        widest(picker, 600, 1, 2, 5, 20);
        PassagePicker all = Check.picker("a" + " ".repeat(598) + "b", "item 1 a; item 1 b;");
        widest(all, 599, 0, 0, 1, 10);
        widest(all, 600, 0, 1, 600, 20);
        widest(Check.picker("a b", ""), 600, -1, -1, -1, 0);
        widest(Check.picker("a b", "item 1 c;"), 600, -1, -1, -1, 0);
        widest(Check.picker("", "item 1 c;"), 600, -1, -1, -1, 0);
        widest(Check.picker("a", "item 1 a;"), 1, 0, 0, 1, 10);
        PassagePicker hundred = Check.picker("x ".repeat(99) + "a a", "item 1 a;");
        widest(hundred, 600, 99, 99, 1, 10);
        PassagePicker behind = Check.picker("x! ".repeat(14) + "a a", "item 1 a;");
        widest(behind, 600, -1, -1, -1, 0);
    }

    private static void widestOfSeveral() {
        Check.sentence(WIDEST);
        PassagePicker longer = Check.picker("bb a, a", "item 1 bb; item 1 a;");
        widest(longer, 1, 1, 1, 1, 10);
        widest(longer, 2, 1, 1, 1, 10);
        widest(longer, 4, 0, 1, 4, 20);
        widest(longer, 7, 0, 2, 7, 23);
        PassagePicker fourth = Check.picker("a  a a a a", "item 1 a;");
        widest(fourth, 600, 1, 3, 5, 14);
        widest(fourth, 4, 1, 2, 3, 13);
        PassagePicker weights = Check.picker("a a a - b", "item 5 a; item 8 b;");
        widest(weights, 1, 3, 3, 1, 80);
        widest(weights, 4, 3, 3, 1, 80);
        widest(weights, 5, 2, 3, 5, 130);
        widest(weights, 7, 1, 3, 7, 145);
        widest(weights, 9, 0, 3, 9, 150);
        PassagePicker over = Check.picker("x a! a x", "item 1 a;");
        widest(over, 600, 1, 2, 4, 13);
        widest(over, 3, 1, 1, 1, 10);
    }

    private static void cutWhole() {
        Check.sentence("CUT of a SENTENCE by n: all of it, if it has n SIGNS at most;");
        PassagePicker ten = Check.picker("a bcd fghi! a bcd fghi.", "item 1 a;");
        Check.equal("signs", ten.sentence(0, 2), 11);
        cut(ten, 0, 10, 0, 0, 0);
        cut(ten, 0, 11, 0, 2, 1);
        cut(ten, 1, 11, 3, 5, 1);
        cut(ten, 1, 12, 3, 5, 1);
        cut(ten, 1, 10, 3, 3, 0);
        PassagePicker pairs = Check.picker("a " + E.repeat(7) + "!", "item 1 a;");
        Check.equal("signs in pairs", pairs.sentence(0, 2), 10);
        cut(pairs, 0, 10, 0, 1, 1);
        PassagePicker full = Check.picker("a" + "-".repeat(598) + "b", "item 1 a;");
        cut(full, 0, 599, 0, 0, 0);
        cut(full, 0, 600, 0, 1, 1);
        PassagePicker none = Check.picker("-".repeat(10) + "! " + "-".repeat(9) + "!", "item 1 a;");
        cut(none, 0, 10, -1, -1, 0);
        cut(none, 0, 11, -1, -1, 1);
        cut(none, 1, 10, -1, -1, 1);
        PassagePicker tiny = Check.picker("a", "item 1 a;");
        cut(tiny, 0, 10, 0, 0, 1);
        cut(tiny, 0, 600, 0, 0, 1);
    }

    private static void cutToWidest() {
        Check.sentence("else WIDEST of WINDOWS within it alone;");
        PassagePicker picker = Check.picker("xxxxx aa yyyyy bb! aa bb. yyyyy aa bb zzzzz!", "item 1 aa; item 1 bb;");
        cut(picker, 0, 10, 1, 1, 0);
        cut(picker, 0, 11, 1, 3, 0);
        cut(picker, 0, 17, 1, 3, 0);
        cut(picker, 0, 18, 0, 3, 1);
        cut(picker, 1, 10, 4, 5, 1);
        cut(picker, 2, 10, 7, 8, 0);
        PassagePicker far = Check.picker("aaaaaaaaaaa bb. cc", "item 9 aaaaaaaaaaa; item 1 bb; item 9 cc;");
        cut(far, 0, 10, 1, 1, 0);
        cut(far, 0, 11, 0, 0, 0);
        cut(far, 0, 14, 0, 1, 0);
        PassagePicker last = Check.picker("x x x x x x a! " + "a x x x x x x!", "item 1 a;");
        cut(last, 0, 10, 6, 6, 0);
        cut(last, 1, 10, 7, 7, 0);
    }

    private static void cutToTheBeginning() {
        Check.sentence("else the first WINDOW from its first WORD on, as many WORDS as can be;");
        PassagePicker exact = Check.picker("Hi! (aaaa bbbbb cc) ab.", "");
        cut(exact, 1, 10, 1, 2, 0);
        cut(exact, 1, 12, 1, 2, 0);
        cut(exact, 1, 13, 1, 3, 0);
        cut(exact, 1, 16, 1, 3, 0);
        cut(exact, 1, 17, 1, 4, 0);
        cut(exact, 1, 18, 1, 4, 0);
        cut(exact, 1, 19, 1, 4, 1);
        PassagePicker longer = Check.picker("aaaa bbbbbb cc", "item 1 x;");
        cut(longer, 0, 10, 0, 0, 0);
        cut(longer, 0, 11, 0, 1, 0);
        cut(longer, 0, 13, 0, 1, 0);
        PassagePicker pairs = Check.picker(E + E + E + E + " " + E + E + E + E + E + " cc", "");
        cut(pairs, 0, 10, 0, 1, 0);
        PassagePicker hundred = Check.picker("a ".repeat(101), "");
        cut(hundred, 0, 199, 0, 99, 0);
        cut(hundred, 0, 198, 0, 98, 0);
    }

    private static void noCut() {
        Check.sentence("none, if its first WORD is too long, or it has none.");
        PassagePicker picker = Check.picker("abcdefghij kl. abcdefghijk lm. --- --- --- --- abcdefghij!", "");
        cut(picker, 0, 10, 0, 0, 0);
        cut(picker, 1, 10, -1, -1, 0);
        cut(picker, 1, 11, 2, 2, 0);
        cut(picker, 1, 12, 2, 2, 0);
        cut(picker, 2, 10, 4, 4, 0);
        PassagePicker none = Check.picker("- - - - - - - -", "item 1 a;");
        cut(none, 0, 10, -1, -1, 0);
        cut(none, 0, 14, -1, -1, 0);
        cut(none, 0, 15, -1, -1, 1);
        PassagePicker beyond = Check.picker("a ".repeat(99) + "a! bbbb cccc dddd.", "item 1 bbbb;");
        Check.equal("a sentence of words beyond the hundredth", beyond.sentence(1, 4), 0);
        cut(beyond, 1, 10, -1, -1, 0);
        cut(beyond, 1, 15, -1, -1, 1);
        PassagePicker full = Check.picker("a".repeat(599) + " b", "");
        cut(full, 0, 599, 0, 0, 1);
        cut(full, 0, 598, -1, -1, 0);
        PassagePicker whole = Check.picker("a".repeat(598) + " b", "");
        cut(whole, 0, 600, 0, 1, 1);
        cut(whole, 0, 599, 0, 0, 0);
        cut(whole, 0, 597, -1, -1, 0);
    }
}
