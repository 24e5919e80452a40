import java.util.NoSuchElementException;

/** Promises 7 to 36: the edges of what each call takes, and of what it answers without a thing to tell of. */
public final class CallEdgesTest {
    private static final String E = "\u00c3\u00a9";
    private static final int[] NO_ITEMS = {0, 16, 17, 32, 256, 1 << 30, -1, -16, Integer.MIN_VALUE, Integer.MAX_VALUE};
    private static final int[] NO_SENTENCES = {16, 17, 32, 1 << 14, 1 << 30, -1, -16, Integer.MIN_VALUE, Integer.MAX_VALUE};

    public static void main(String[] args) {
        tell();
        signs();
        word();
        sentence();
        item();
        fits();
        match();
        window();
        least();
        most();
        widest();
        cut();
        set();
        setsOfFourteen();
        common();
        stepAndRank();
        choiceAndTake();
        chooseAndDrop();
        exchangeAndTrade();
        needAndLoss();
        quoteAndWrite();
        octetAndMarks();
        count();
        Check.finish();
    }

    private static void tell() {
        Check.sentence("BUDGET (what 0), MOST (1), LIMIT (2) is told: what it was. NoSuchElementException: another what; "
                + "IllegalArgumentException: n is none.");
        PassagePicker picker = new PassagePicker();
        Check.whats("tell", 2, what -> picker.tell(what, new int[] {20, 1, 0}[Math.floorMod(what, 3)]));
        int[] low = {20, 1, 0};
        int[] high = {700, 6, 100};
        for (int what = 0; what < 3; what++) {
            int of = what;
            Check.numbers("tell(" + what + ")", low[what], high[what], n -> picker.tell(of, n));
            Check.equal("what it was", picker.tell(what, low[what]), high[what]);
            Check.equal("what it was then", picker.tell(what, high[what]), low[what]);
            Check.equal("what it is", picker.count(6 + what), high[what]);
        }
        Check.throwing("another what, and n is none", NoSuchElementException.class, () -> picker.tell(3, -1));
    }

    private static void signs() {
        PassagePicker picker = Check.picker("a" + E + "b", "");
        Check.sentence("Where the k-th SIGN of the page begins; NONE without.");
        Check.nones("sign", 3, picker::sign);
        int[] begins = {0, 1, 3};
        for (int k = 0; k < 3; k++) {
            Check.equal("sign(" + k + ")", picker.sign(k), begins[k]);
        }
        Check.sentence("Which SIGN has byte i of the page; NONE without.");
        Check.nones("signOf", 4, picker::signOf);
        int[] of = {0, 1, 1, 2};
        for (int i = 0; i < 4; i++) {
            Check.equal("signOf(" + i + ")", picker.signOf(i), of[i]);
        }
        PassagePicker full = Check.picker("a".repeat(600), "");
        Check.nones("sign of 600", 600, full::sign);
        Check.nones("signOf of 600", 600, full::signOf);
        Check.equal("the last sign", full.sign(599), 599);
        Check.equal("the last byte", full.signOf(599), 599);
    }

    private static void word() {
        Check.sentence("Of a WORD what 0 where it begins, 1 how many bytes, 2 how many SIGNS, 3 its SENTENCE (NONE), "
                + "4 ITEMS that have a MATCH with it, as bits, 5 the first WORD ALIKE. NoSuchElementException: another what.");
        PassagePicker picker = Check.picker("Ab x" + E + "! " + "c! ".repeat(13) + "aB", "item 1 ab; item 1 ab x*; item 1 x*;");
        Check.indices("word", 16, w -> picker.word(w, 0));
        Check.whats("word", 5, what -> picker.word(15, what));
        int[][] due = {{0, 2, 2, 0, 3, 0}, {3, 3, 2, 0, 6, 1}, {8, 1, 1, 1, 0, 2}, {11, 1, 1, 2, 0, 2}};
        for (int w = 0; w < due.length; w++) {
            for (int what = 0; what < 6; what++) {
                Check.equal("word(" + w + ", " + what + ")", picker.word(w, what), due[w][what]);
            }
        }
        int[] last = {47, 2, 2, -1, 0, 0};
        for (int what = 0; what < 6; what++) {
            Check.equal("word(15, " + what + ")", picker.word(15, what), last[what]);
        }
        Check.throwing("no word, another what", IndexOutOfBoundsException.class, () -> picker.word(16, 6));
        PassagePicker eight = Check.picker("a", "item 1 a;".repeat(8));
        Check.equal("eight items", eight.word(0, 4), 255);
    }

    private static void sentence() {
        Check.sentence("Of a SENTENCE what 0 where it begins, 1 how many bytes, 2 how many SIGNS, 3 its first WORD (NONE), "
                + "4 how many WORDS, 5 unlike ones, 6 ITEMS that have a MATCH in it, as bits, 7 WORTH, 8 GAIN, were it put to "
                + "CHOSEN (0 of one of these), 9 1 if it may be chosen now, 10 ECHO (NONE). "
                + "NoSuchElementException: another what.");
        PassagePicker picker = Check.picker(" 11! Aa a" + E + " aA! aa a" + E + ".", "item 2 aa; item 1 xx; item 3 a*;");
        Check.indices("sentence", 3, s -> picker.sentence(s, 0));
        Check.whats("sentence", 10, what -> picker.sentence(2, what));
        int[][] due = {{1, 3, 3, -1, 0, 0, 0, 0, 0, 1, -1}, {5, 10, 9, 0, 3, 2, 5, 68, 68, 1, 2},
            {16, 7, 6, 3, 2, 2, 5, 59, 59, 1, 1}};
        for (int s = 0; s < 3; s++) {
            for (int what = 0; what < 11; what++) {
                Check.equal("sentence(" + s + ", " + what + ")", picker.sentence(s, what), due[s][what]);
            }
        }
        picker.choose(1);
        int[][] then = {{0, 1}, {0, 0}, {2, 0}};
        for (int s = 0; s < 3; s++) {
            Check.equal("GAIN of " + s, picker.sentence(s, 8), then[s][0]);
            Check.equal("whether " + s + " may be chosen", picker.sentence(s, 9), then[s][1]);
        }
        Check.throwing("no sentence, another what", IndexOutOfBoundsException.class, () -> picker.sentence(3, 11));
    }

    private static void item() {
        Check.sentence("Of an ITEM what 0 WEIGHT, 1 1 if STRONG, 2 TERMS, 3 MATCHES, 4 SENTENCES with one, as bits. "
                + "NoSuchElementException: another what.");
        PassagePicker picker = Check.picker("a! ".repeat(13) + "a a b!", "item 9 a; item 1 soft a b; item 2 soft a b c d;");
        Check.indices("item", 3, i -> picker.item(i, 0));
        Check.whats("item", 4, what -> picker.item(2, what));
        int[][] due = {{9, 1, 1, 15, 16383}, {1, 0, 2, 1, 8192}, {2, 0, 4, 0, 0}};
        for (int i = 0; i < 3; i++) {
            for (int what = 0; what < 5; what++) {
                Check.equal("item(" + i + ", " + what + ")", picker.item(i, what), due[i][what]);
            }
        }
        Check.throwing("no item, another what", IndexOutOfBoundsException.class, () -> picker.item(3, 5));
        PassagePicker eight = Check.picker("a ".repeat(100), "item 1 a;".repeat(8));
        Check.indices("item of eight", 8, i -> eight.item(i, 0));
        Check.equal("a hundred matches", eight.item(7, 3), 100);
    }

    private static void fits() {
        Check.sentence("Whether a TERM (0 on) of an ITEM FITS a WORD; false without such a TERM.");
        PassagePicker picker = Check.picker("a b c d e", "item 1 a; item 1 b a; item 1 a b c d;");
        Check.indices("fits, item", 3, i -> picker.fits(i, 0, 0) ? 1 : 0);
        Check.indices("fits, word", 5, w -> picker.fits(0, 0, w) ? 1 : 0);
        Check.yes("fits(0, 0, 0)", picker.fits(0, 0, 0));
        Check.yes("fits(2, 3, 3)", picker.fits(2, 3, 3));
        Check.yes("fits(1, 1, 0)", picker.fits(1, 1, 0));
        for (int term : new int[] {-1, 4, 5, 8, 100, Integer.MIN_VALUE, Integer.MAX_VALUE}) {
            for (int word = 0; word < 5; word++) {
                for (int item = 0; item < 3; item++) {
                    Check.no("fits(" + item + ", " + term + ", " + word + ")", picker.fits(item, term, word));
                }
            }
            Check.throwing("no item", IndexOutOfBoundsException.class, () -> picker.fits(3, term, 0) ? 1 : 0);
            Check.throwing("no word", IndexOutOfBoundsException.class, () -> picker.fits(0, term, 5) ? 1 : 0);
        }
        Check.no("no second TERM", picker.fits(0, 1, 1));
        Check.no("no third TERM", picker.fits(1, 2, 0));
        PassagePicker once = Check.picker("a b", "item 1 a b;");
        Check.query(once, "item 1 a;");
        Check.no("no TERM of the query ahead", once.fits(0, 1, 1));
    }

    private static void match() {
        Check.sentence("Of a MATCH what 0 ITEM, 1 its first WORD, 2 its last one. NoSuchElementException: another what.");
        PassagePicker picker = Check.picker("a b a b", "item 1 b; item 1 a b;");
        Check.indices("match", 4, m -> picker.match(m, 0));
        Check.whats("match", 2, what -> picker.match(3, what));
        int[][] due = {{1, 0, 1}, {0, 1, 1}, {1, 2, 3}, {0, 3, 3}};
        for (int m = 0; m < 4; m++) {
            for (int what = 0; what < 3; what++) {
                Check.equal("match(" + m + ", " + what + ")", picker.match(m, what), due[m][what]);
            }
        }
        Check.throwing("no match, another what", IndexOutOfBoundsException.class, () -> picker.match(4, 3));
    }

    private static void window() {
        Check.sentence("Of the k-th WINDOW that is MINIMAL for a set of ITEMS, from the left on, what 0 its first WORD, "
                + "1 its last one, 2 LENGTH; how many there are for k NONE; NONE without. NoSuchElementException: another what; "
                + "IllegalArgumentException: the set is empty, or has ITEMS that there are not.");
        PassagePicker picker = Samples.picker();
        Check.whats("window", 2, what -> picker.window(15, 0, what));
        Check.whats("window of k NONE", 2, what -> picker.window(15, -1, what));
        Check.whats("window of none", 2, what -> picker.window(15, 1, what));
        for (int what = 0; what < 3; what++) {
            Check.equal("how many, what " + what, picker.window(1, -1, what), 2);
            Check.equal("none behind the last", picker.window(1, 2, what), -1);
            Check.equal("none of k -2", picker.window(1, -2, what), -1);
            Check.equal("none of the least k", picker.window(1, Integer.MIN_VALUE, what), -1);
            Check.equal("none of the greatest k", picker.window(1, Integer.MAX_VALUE, what), -1);
        }
        for (int set : NO_ITEMS) {
            for (int k : new int[] {-1, 0}) {
                Check.throwing("window of " + set, IllegalArgumentException.class, () -> picker.window(set, k, 0));
                Check.throwing("and what 3", NoSuchElementException.class, () -> picker.window(set, k, 3));
                Check.throwing("and what -1", NoSuchElementException.class, () -> picker.window(set, k, -1));
            }
        }
        PassagePicker none = Check.picker("a", "");
        Check.throwing("a set where no ITEMS are", IllegalArgumentException.class, () -> none.window(1, -1, 0));
        Check.throwing("no set where no ITEMS are", IllegalArgumentException.class, () -> none.window(0, -1, 0));
        PassagePicker eight = Check.picker("a", "item 1 a;".repeat(8));
        Check.equal("the set of all eight", eight.window(255, -1, 0), 1);
        Check.equal("the set of the eighth", eight.window(128, 0, 0), 0);
        Check.throwing("a ninth", IllegalArgumentException.class, () -> eight.window(256, -1, 0));
    }

    private static void least() {
        Check.sentence("LEAST for a set: what as above; NONE without. Exceptions likewise.");
        PassagePicker picker = Samples.picker();
        Check.whats("least", 2, what -> picker.least(15, what));
        for (int set : NO_ITEMS) {
            Check.throwing("least of " + set, IllegalArgumentException.class, () -> picker.least(set, 0));
            Check.throwing("and what 3", NoSuchElementException.class, () -> picker.least(set, 3));
            Check.throwing("and what -1", NoSuchElementException.class, () -> picker.least(set, -1));
        }
        PassagePicker none = Check.picker("a", "item 1 a; item 1 b;");
        for (int what = 0; what < 3; what++) {
            Check.equal("least without, what " + what, none.least(3, what), -1);
        }
        PassagePicker eight = Check.picker("a", "item 1 a;".repeat(8));
        Check.equal("least of all eight", eight.least(255, 2), 1);
        Check.throwing("least of a ninth", IllegalArgumentException.class, () -> eight.least(256, 0));
        Check.throwing("least where no ITEMS are", IllegalArgumentException.class, () -> new PassagePicker().least(1, 0));
    }

    private static void most() {
        Check.sentence("The most unlike ITEMS that a WINDOW of a LENGTH n (1 to 600) at most HAS. "
                + "IllegalArgumentException: n is none.");
        PassagePicker picker = Check.picker("a b" + " ".repeat(596) + "c", "item 1 a; item 1 a; item 1 b; item 1 c; item 1 d;");
        Check.numbers("most", 1, 600, picker::most);
        int[][] due = {{1, 2}, {2, 2}, {3, 3}, {599, 3}, {600, 4}};
        for (int[] row : due) {
            Check.equal("most(" + row[0] + ")", picker.most(row[0]), row[1]);
        }
        Check.equal("most of nothing", new PassagePicker().most(600), 0);
        Check.equal("most of no ITEMS", Check.picker("a", "").most(600), 0);
        Check.equal("most of eight", Check.picker("a", "item 1 a;".repeat(8)).most(1), 8);
        Check.equal("most without a match", Check.picker("b", "item 1 a;").most(600), 0);
    }

    private static void widest() {
        Check.sentence("WIDEST by n (1 to 600): what 0 its first WORD, 1 its last one, 2 LENGTH, 3 WORTH; NONE (0 of 3) "
                + "without. Exceptions likewise.");
        PassagePicker picker = Samples.picker();
        Check.whats("widest", 3, what -> picker.widest(600, what));
        for (int what = 0; what < 4; what++) {
            int of = what;
            Check.numbers("widest, what " + what, 1, 600, n -> picker.widest(n, of));
            Check.equal("widest without, what " + what, picker.widest(1, what), what == 3 ? 0 : -1);
        }
        for (int n : new int[] {0, 601, -1}) {
            Check.throwing("n is none, what 4", NoSuchElementException.class, () -> picker.widest(n, 4));
            Check.throwing("n is none, what -1", NoSuchElementException.class, () -> picker.widest(n, -1));
        }
    }

    private static void cut() {
        Check.sentence("CUT by n (10 to 600): what 0 its first WORD, 1 its last one (of all of a SENTENCE: its first one and "
                + "its last one), 2 1 if it is all of it; NONE (0 of 2) without. Exceptions likewise.");
        PassagePicker picker = Check.picker("abcdefghijk lm! aa bb!", "");
        Check.indices("cut", 2, s -> picker.cut(s, 10, 0));
        Check.whats("cut", 2, what -> picker.cut(0, 600, what));
        int[][] due = {{-1, -1, 0}, {0, 0, 0}, {0, 1, 1}, {2, 3, 1}};
        for (int what = 0; what < 3; what++) {
            int of = what;
            Check.numbers("cut, what " + what, 10, 600, n -> picker.cut(1, n, of));
            Check.equal("without, what " + what, picker.cut(0, 10, what), due[0][what]);
            Check.equal("cut, what " + what, picker.cut(0, 11, what), due[1][what]);
            Check.equal("all of it, what " + what, picker.cut(0, 15, what), due[2][what]);
            Check.equal("all of the other, what " + what, picker.cut(1, 10, what), due[3][what]);
        }
        Check.throwing("all three are wrong", IndexOutOfBoundsException.class, () -> picker.cut(2, 9, 3));
        Check.throwing("what and n are wrong", NoSuchElementException.class, () -> picker.cut(1, 9, 3));
        Check.throwing("what and n are wrong otherwise", NoSuchElementException.class, () -> picker.cut(1, 601, -1));
    }

    private static void set() {
        Check.sentence("Of a set of SENTENCES what 0 WORTH, 1 LENGTH, 2 1 if it MAY be, 3 ITEMS with a MATCH, as bits. "
                + "NoSuchElementException: another what; IllegalArgumentException: it has SENTENCES that there are not.");
        PassagePicker picker = Samples.picker();
        Check.whats("set", 3, what -> picker.set(15, what));
        Check.whats("set of none", 3, what -> picker.set(0, what));
        for (int set : NO_SENTENCES) {
            for (int what = 0; what < 4; what++) {
                int of = what;
                Check.throwing("set " + set, IllegalArgumentException.class, () -> picker.set(set, of));
            }
            Check.throwing("set " + set + ", what 4", NoSuchElementException.class, () -> picker.set(set, 4));
            Check.throwing("set " + set + ", what -1", NoSuchElementException.class, () -> picker.set(set, -1));
        }
        int[] due = {131, 77, 0, 15};
        for (int what = 0; what < 4; what++) {
            Check.equal("set of all, what " + what, picker.set(15, what), due[what]);
        }
    }

    private static void setsOfFourteen() {
        Check.sentence("Sets are bits.");
        PassagePicker none = new PassagePicker();
        Check.equal("the empty set where no SENTENCE is", none.set(0, 2), 1);
        Check.throwing("a set where no SENTENCE is", IllegalArgumentException.class, () -> none.set(1, 0));
        PassagePicker all = Check.picker("x! ".repeat(13) + "a!", "item 1 a;");
        Check.equal("the set of all fourteen", all.set(16383, 0), 10);
        Check.equal("the set of the fourteenth", all.set(8192, 0), 10);
        Check.equal("the set of the others", all.set(8191, 0), 0);
        Check.throwing("a fifteenth", IllegalArgumentException.class, () -> all.set(16384, 0));
        Check.equal("ITEMS of the fourteenth", all.set(8192, 3), 1);
        Check.equal("SENTENCES of the ITEM", all.item(0, 4), 8192);
    }

    private static void common() {
        Check.sentence("IN COMMON of two; of one and itself 100.");
        PassagePicker picker = Check.picker("aa! 11! aa bb!", "");
        Check.indices("common, the first", 3, s -> picker.common(s, 0));
        Check.indices("common, the second", 3, s -> picker.common(0, s));
        Check.throwing("neither is", IndexOutOfBoundsException.class, () -> picker.common(3, 3));
        Check.throwing("neither is, below 0", IndexOutOfBoundsException.class, () -> picker.common(-1, -1));
        int[][] due = {{100, 0, 50}, {0, 100, 0}, {50, 0, 100}};
        for (int s = 0; s < 3; s++) {
            for (int other = 0; other < 3; other++) {
                Check.equal("common(" + s + ", " + other + ")", picker.common(s, other), due[s][other]);
            }
        }
    }

    private static void stepAndRank() {
        PassagePicker picker = Samples.picker();
        Check.sentence("The k-th SENTENCE of STEPS; NONE without.");
        Check.nones("step", 3, picker::step);
        Check.equal("step(0)", picker.step(0), 0);
        Check.equal("step(2)", picker.step(2), 2);
        picker.tell(1, 1);
        Check.nones("step by MOST 1", 1, picker::step);
        Check.sentence("The k-th SENTENCE of RANK; NONE without.");
        Check.nones("rank", 4, picker::rank);
        Check.equal("rank(0)", picker.rank(0), 0);
        Check.equal("rank(3)", picker.rank(3), 3);
    }

    private static void choiceAndTake() {
        PassagePicker picker = Samples.picker();
        Check.sentence("GREEDY (best false), or BEST, as bits.");
        Check.equal("choice(false)", picker.choice(false), 7);
        Check.equal("choice(true)", picker.choice(true), 11);
        Check.equal("CHOSEN stays", picker.count(9), 0);
        Check.sentence("GREEDY, or BEST is CHOSEN: its WORTH.");
        Check.equal("take(false)", picker.take(false), 121);
        Check.equal("GREEDY is CHOSEN", picker.count(9), 7);
        Check.equal("take(true)", picker.take(true), 125);
        Check.equal("BEST is CHOSEN", picker.count(9), 11);
        Check.equal("take(true) of nothing", new PassagePicker().take(true), 0);
        Check.equal("take(false) of nothing", new PassagePicker().take(false), 0);
    }

    private static void chooseAndDrop() {
        PassagePicker picker = Samples.picker();
        Check.sentence("A SENTENCE is chosen: WORTH of CHOSEN. IllegalStateException: it is chosen, or the set MAY not be.");
        Check.indices("choose", 4, picker::choose);
        Check.equal("CHOSEN", picker.count(9), 9);
        Check.throwing("it is chosen", IllegalStateException.class, () -> picker.choose(3));
        Check.equal("choose(1)", picker.choose(1), 125);
        Check.throwing("the set MAY not be", IllegalStateException.class, () -> picker.choose(2));
        Check.sentence("A SENTENCE is dropped: WORTH of CHOSEN. IllegalStateException: it is not chosen.");
        Check.throwing("it is not chosen", IllegalStateException.class, () -> picker.drop(2));
        Check.indices("drop", 4, picker::drop);
        Check.equal("one stays", picker.count(9), 2);
        Check.throwing("it is dropped", IllegalStateException.class, () -> picker.drop(0));
        Check.equal("drop(1)", picker.drop(1), 0);
    }

    private static void exchangeAndTrade() {
        PassagePicker picker = Samples.picker();
        Check.sentence("EXCHANGE: what 0, 1 the two (NONE), 2 by how much WORTH is more (0). "
                + "NoSuchElementException: another what.");
        Check.whats("exchange", 2, picker::exchange);
        int[] without = {-1, -1, 0};
        int[] due = {3, 0, 70};
        for (int what = 0; what < 3; what++) {
            Check.equal("exchange without, what " + what, picker.exchange(what), without[what]);
        }
        picker.choose(3);
        for (int what = 0; what < 3; what++) {
            Check.equal("exchange, what " + what, picker.exchange(what), due[what]);
        }
        Check.whats("exchange of some", 2, picker::exchange);
        Check.sentence("EXCHANGE is done: WORTH of CHOSEN. IllegalStateException: there is none.");
        Check.equal("trade", picker.trade(), 80);
        Check.equal("CHOSEN", picker.count(9), 1);
        Check.throwing("there is none", IllegalStateException.class, picker::trade);
    }

    private static void needAndLoss() {
        PassagePicker picker = Samples.picker();
        Check.sentence("NEED (NONE). IllegalArgumentException: w is none (1 to 1,008).");
        Check.numbers("need", 1, 1008, picker::need);
        Check.equal("need(1)", picker.need(1), 20);
        Check.equal("need(125)", picker.need(125), 64);
        Check.equal("need(126)", picker.need(126), -1);
        Check.numbers("need of nothing", 1, 1008, new PassagePicker()::need);
        Check.sentence("LOSS.");
        Check.indices("loss", 4, picker::loss);
        Check.equal("loss(0)", picker.loss(0), 39);
        Check.equal("loss(3)", picker.loss(3), 4);
        Check.indices("loss of nothing", 0, new PassagePicker()::loss);
    }

    private static void quoteAndWrite() {
        PassagePicker picker = Samples.picker();
        Check.sentence("QUOTED by n (1 to 600): how many bytes (as what was written last, with its MARKS). "
                + "IllegalArgumentException: n is none.");
        Check.numbers("quote", 1, 600, picker::quote);
        Check.equal("quote(3)", picker.quote(3), 14);
        Check.equal("bytes", picker.count(12), 14);
        Check.equal("its marks", picker.marks(true), 1);
        Check.equal("quote(2)", picker.quote(2), 0);
        Check.equal("no bytes", picker.count(12), 0);
        Check.equal("no marks", picker.marks(true), 0);
        Check.sentence("CHOSEN is WRITTEN by n (10 to 600): how many bytes. IllegalArgumentException: n is none.");
        Check.numbers("write of none", 10, 600, picker::write);
        picker.choose(2);
        Check.numbers("write", 10, 600, picker::write);
        Check.equal("write(10)", picker.write(10), 16);
        Check.throwing("quote(0)", IllegalArgumentException.class, () -> picker.quote(0));
        Check.throwing("write(9)", IllegalArgumentException.class, () -> picker.write(9));
        Check.equal("bytes stay", picker.count(12), 16);
        Check.equal("quote(9), which write does not take", picker.quote(9), 32);
    }

    private static void octetAndMarks() {
        PassagePicker picker = Samples.picker();
        Check.sentence("Byte k of what was written last; NONE without.");
        Check.nones("octet ahead of all", 0, picker::octet);
        picker.quote(600);
        int quoted = picker.count(12);
        Check.nones("octet of what is quoted", quoted, picker::octet);
        picker.quote(3);
        Check.nones("octet of what is shorter", 14, picker::octet);
        Check.equal("the first", picker.octet(0), '.');
        Check.equal("the last", picker.octet(13), '.');
        picker.write(10);
        Check.nones("octet of nothing", 0, picker::octet);
        PassagePicker last = Check.picker("\u00ff\u0000\u0080", "");
        last.choose(0);
        last.write(10);
        Check.equal("byte 255", last.octet(0), 255);
        Check.equal("byte 0", last.octet(1), 0);
        Check.equal("byte 128", last.octet(2), 128);
        Check.sentence("MARKS that were written last: STRONG ones (strong), SOFT ones, each begin counted.");
        PassagePicker marks = Check.picker("aa bb cc. dd", "item 1 soft aa bb cc; item 1 bb; item 1 dd;");
        Check.equal("STRONG ones ahead of all", marks.marks(true), 0);
        Check.equal("SOFT ones ahead of all", marks.marks(false), 0);
        marks.quote(600);
        Check.equal("STRONG ones", marks.marks(true), 2);
        Check.equal("SOFT ones, each begin", marks.marks(false), 3);
        marks.quote(2);
        Check.equal("STRONG ones of the latest", marks.marks(true), 1);
        Check.equal("SOFT ones of the latest", marks.marks(false), 0);
    }

    private static void count() {
        Check.sentence("0 bytes of the page, 1 SIGNS, 2 WORDS, 3 SENTENCES, 4 ITEMS, 5 MATCHES, 6 BUDGET, 7 MOST, 8 LIMIT, "
                + "9 CHOSEN, as bits, 10 unlike WORDS, 11 WORTH of all SENTENCES, 12 bytes that were written last, 13 VARIETY, "
                + "as bits, 14 MERIT. NONE for another what.");
        PassagePicker picker = Check.picker("Aa a" + E + "! aa? bb! x aa bb.", "item 1 aa; item 2 bb; item 3 cc;");
        picker.tell(0, 300);
        picker.tell(1, 4);
        picker.tell(2, 50);
        picker.choose(3);
        picker.choose(1);
        picker.write(600);
        int[] due = {24, 23, 7, 4, 3, 5, 300, 4, 50, 10, 4, 40, 29, 15, 100};
        Check.nones("count", due.length, picker::count);
        for (int what = 0; what < due.length; what++) {
            Check.equal("count(" + what + ")", picker.count(what), due[what]);
        }
        PassagePicker full = Check.picker("a ".repeat(300), "item 9 a;".repeat(8));
        int[] most = {600, 600, 100, 1, 8, 800, 200, 3, 60, 0, 1, 1008, 0, 1, 100};
        for (int what = 0; what < most.length; what++) {
            Check.equal("count(" + what + ") of the fullest", full.count(what), most[what]);
        }
    }
}
