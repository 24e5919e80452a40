import java.util.NoSuchElementException;
import java.util.function.Consumer;
import java.util.function.ToIntFunction;

/** What the document says of exceptions: which one is thrown, where, and what a call that throws leaves as it was. */
public final class RefusedEdgesTest {
    private static final Class<IndexOutOfBoundsException> NO_SUCH = IndexOutOfBoundsException.class;
    private static final Class<NoSuchElementException> NO_WHAT = NoSuchElementException.class;
    private static final Class<IllegalArgumentException> NO_NUMBER = IllegalArgumentException.class;
    private static final Class<IllegalStateException> CANNOT_BE = IllegalStateException.class;
    private static final int[] BELOW_AND_ABOVE = {-1, Integer.MIN_VALUE, Integer.MAX_VALUE};

    /** Four SENTENCES, three of them CHOSEN; a FAULT, something written, and twenty-one bytes on the tape. */
    private static final Consumer<PassagePicker> FILLED = picker -> {
        Check.page(picker, Samples.PAGE);
        Check.query(picker, Samples.QUERY);
        Check.feed(picker, "item 1");
        Check.answer(picker::query);
        picker.choose(0);
        picker.choose(2);
        picker.choose(3);
        picker.write(10);
        Check.feed(picker, "item 9 saw; item 9 a;");
    };

    public static void main(String[] args) {
        noSuchThing();
        anotherWhat();
        noNumber();
        noSet();
        cannotBe();
        wrongTexts();
        wrongTextOfAFullTape();
        oneToldFirst();
        questions();
        Check.finish();
    }

    private static void refused(String what, Class<? extends RuntimeException> due, ToIntFunction<PassagePicker> call) {
        State.refused(what, due, FILLED, call);
    }

    private static void noSuchThing() {
        Check.sentence("IndexOutOfBoundsException: there is no such WORD, SENTENCE, ITEM, MATCH.");
        for (int far : BELOW_AND_ABOVE) {
            refused("word " + far, NO_SUCH, p -> p.word(far, 0));
            refused("sentence " + far, NO_SUCH, p -> p.sentence(far, 0));
            refused("item " + far, NO_SUCH, p -> p.item(far, 0));
            refused("match " + far, NO_SUCH, p -> p.match(far, 0));
            refused("fits of item " + far, NO_SUCH, p -> p.fits(far, 0, 0) ? 1 : 0);
            refused("fits of word " + far, NO_SUCH, p -> p.fits(0, 0, far) ? 1 : 0);
            refused("cut of " + far, NO_SUCH, p -> p.cut(far, 10, 0));
            refused("common of " + far, NO_SUCH, p -> p.common(far, 0));
            refused("common with " + far, NO_SUCH, p -> p.common(0, far));
            refused("choose " + far, NO_SUCH, p -> p.choose(far));
            refused("drop " + far, NO_SUCH, p -> p.drop(far));
            refused("loss of " + far, NO_SUCH, p -> p.loss(far));
        }
        refused("the sixteenth word", NO_SUCH, p -> p.word(15, 0));
        refused("the fifth sentence", NO_SUCH, p -> p.sentence(4, 0));
        refused("the fifth item", NO_SUCH, p -> p.item(4, 0));
        refused("the seventh match", NO_SUCH, p -> p.match(6, 0));
        refused("fits of the fifth item", NO_SUCH, p -> p.fits(4, 0, 0) ? 1 : 0);
        refused("fits of the sixteenth word", NO_SUCH, p -> p.fits(0, 0, 15) ? 1 : 0);
        refused("cut of the fifth sentence", NO_SUCH, p -> p.cut(4, 10, 0));
        refused("common of the fifth sentence", NO_SUCH, p -> p.common(4, 0));
        refused("common with the fifth sentence", NO_SUCH, p -> p.common(0, 4));
        refused("choose the fifth sentence", NO_SUCH, p -> p.choose(4));
        refused("drop the fifth sentence", NO_SUCH, p -> p.drop(4));
        refused("loss of the fifth sentence", NO_SUCH, p -> p.loss(4));
    }

    private static void anotherWhat() {
        Check.sentence("Of several exceptions the one told first is thrown; a call that throws changes nothing but the TAPE, "
                + "where it is used up, and fault(), where a text is read.");
        refused("tell 3", NO_WHAT, p -> p.tell(3, 20));
        refused("word, what 6", NO_WHAT, p -> p.word(0, 6));
        refused("sentence, what 11", NO_WHAT, p -> p.sentence(0, 11));
        refused("item, what 5", NO_WHAT, p -> p.item(0, 5));
        refused("match, what 3", NO_WHAT, p -> p.match(0, 3));
        refused("window, what 3", NO_WHAT, p -> p.window(1, 0, 3));
        refused("least, what 3", NO_WHAT, p -> p.least(1, 3));
        refused("widest, what 4", NO_WHAT, p -> p.widest(10, 4));
        refused("cut, what 3", NO_WHAT, p -> p.cut(0, 10, 3));
        refused("set, what 4", NO_WHAT, p -> p.set(0, 4));
        refused("exchange, what 3", NO_WHAT, p -> p.exchange(3));
        for (int far : BELOW_AND_ABOVE) {
            refused("tell " + far, NO_WHAT, p -> p.tell(far, 20));
            refused("word, what " + far, NO_WHAT, p -> p.word(0, far));
            refused("sentence, what " + far, NO_WHAT, p -> p.sentence(0, far));
            refused("item, what " + far, NO_WHAT, p -> p.item(0, far));
            refused("match, what " + far, NO_WHAT, p -> p.match(0, far));
            refused("window, what " + far, NO_WHAT, p -> p.window(1, 0, far));
            refused("least, what " + far, NO_WHAT, p -> p.least(1, far));
            refused("widest, what " + far, NO_WHAT, p -> p.widest(10, far));
            refused("cut, what " + far, NO_WHAT, p -> p.cut(0, 10, far));
            refused("set, what " + far, NO_WHAT, p -> p.set(0, far));
            refused("exchange, what " + far, NO_WHAT, p -> p.exchange(far));
        }
    }

    private static void noNumber() {
        Check.sentence("IllegalArgumentException: a number is none, a text is wrong.");
        int[][] told = {{0, 19}, {0, 701}, {1, 0}, {1, 7}, {2, -1}, {2, 101}};
        for (int[] row : told) {
            refused("tell(" + row[0] + ", " + row[1] + ")", NO_NUMBER, p -> p.tell(row[0], row[1]));
        }
        for (int n : new int[] {0, 601, -1, Integer.MIN_VALUE, Integer.MAX_VALUE}) {
            refused("most(" + n + ")", NO_NUMBER, p -> p.most(n));
            refused("widest(" + n + ")", NO_NUMBER, p -> p.widest(n, 0));
            refused("quote(" + n + ")", NO_NUMBER, p -> p.quote(n));
        }
        for (int n : new int[] {9, 601, -1, 0, Integer.MIN_VALUE, Integer.MAX_VALUE}) {
            refused("cut by " + n, NO_NUMBER, p -> p.cut(0, n, 0));
            refused("write(" + n + ")", NO_NUMBER, p -> p.write(n));
        }
        for (int w : new int[] {0, 1009, -1, Integer.MIN_VALUE, Integer.MAX_VALUE}) {
            refused("need(" + w + ")", NO_NUMBER, p -> p.need(w));
        }
    }

    private static void noSet() {
        Check.sentence("IllegalArgumentException: a number is none, a text is wrong.");
        for (int set : new int[] {0, 16, 31, -1, Integer.MIN_VALUE, Integer.MAX_VALUE}) {
            refused("window of " + set, NO_NUMBER, p -> p.window(set, 0, 0));
            refused("windows of " + set, NO_NUMBER, p -> p.window(set, -1, 0));
            refused("least of " + set, NO_NUMBER, p -> p.least(set, 0));
        }
        for (int set : new int[] {16, 31, -1, Integer.MIN_VALUE, Integer.MAX_VALUE}) {
            refused("set " + set, NO_NUMBER, p -> p.set(set, 0));
        }
    }

    private static void cannotBe() {
        Check.sentence("IllegalStateException: it cannot be.");
        refused("choose one that is chosen", CANNOT_BE, p -> p.choose(0));
        refused("choose a fourth", CANNOT_BE, p -> p.choose(1));
        refused("drop one that is not chosen", CANNOT_BE, p -> p.drop(1));
        Consumer<PassagePicker> best = FILLED.andThen(p -> p.take(true));
        State.refused("trade behind BEST", CANNOT_BE, best, PassagePicker::trade);
        State.refused("drop one that BEST has not", CANNOT_BE, best, p -> p.drop(2));
        State.refused("trade on a new object", CANNOT_BE, p -> { }, PassagePicker::trade);
        Consumer<PassagePicker> tooLong = FILLED.andThen(p -> p.tell(0, 32)).andThen(p -> p.choose(0));
        State.refused("choose what is too long", CANNOT_BE, tooLong, p -> p.choose(2));
        Consumer<PassagePicker> tooLike = FILLED.andThen(p -> p.tell(2, 27)).andThen(p -> p.choose(0));
        State.refused("choose what has too much in common", CANNOT_BE, tooLike, p -> p.choose(1));
    }

    private static void wrongText(String text, int fault) {
        Consumer<PassagePicker> laid = FILLED.andThen(p -> p.end(0)).andThen(p -> Check.feed(p, text));
        PassagePicker picker = new PassagePicker();
        laid.accept(picker);
        Check.throwing("query [" + text + "]", IllegalArgumentException.class, picker::query);
        Check.equal("fault of [" + text + "]", picker.fault(), fault);
        Check.equal("the tape is used up", picker.feed(0, 0, 0, 0, 0), 20);
        Consumer<PassagePicker> read = laid.andThen(p -> Check.answer(p::query));
        Check.equal("all but the fault, which is asked for first", State.behind(read).replaceFirst("^-?\\d+ ", ""),
                State.behind(FILLED.andThen(p -> p.end(0))).replaceFirst("^-?\\d+ ", ""));
    }

    private static void wrongTexts() {
        Check.sentence("IllegalArgumentException: a number is none, a text is wrong.");
        wrongText("x", 0);
        wrongText("item", 4);
        wrongText("item 0 a;", 5);
        wrongText("item 9 saw; item 9 a b c d e;", 27);
        wrongText("item 9 soft saw*; item 9 a; item 9 dog; item 9 is; item 9 ", 58);
        wrongText("item 9 saw;".repeat(9), 88);
    }

    private static void wrongTextOfAFullTape() {
        Check.sentence("Of several exceptions the one told first is thrown; a call that throws changes nothing but the TAPE, "
                + "where it is used up, and fault(), where a text is read.");
        wrongText("item 9 saw;" + " ".repeat(588) + "x", 599);
        wrongText(" ".repeat(596) + "item", 600);
    }

    private static void oneToldFirst() {
        Check.sentence("Of several exceptions the one told first is thrown; a call that throws changes nothing but the TAPE, "
                + "where it is used up, and fault(), where a text is read.");
        for (int far : BELOW_AND_ABOVE) {
            refused("tell, both", NO_WHAT, p -> p.tell(far, far));
            refused("word, both", NO_SUCH, p -> p.word(far, far));
            refused("sentence, both", NO_SUCH, p -> p.sentence(far, far));
            refused("item, both", NO_SUCH, p -> p.item(far, far));
            refused("match, both", NO_SUCH, p -> p.match(far, far));
            refused("fits, all", NO_SUCH, p -> p.fits(far, far, far) ? 1 : 0);
            refused("fits, term and word", NO_SUCH, p -> p.fits(0, far, far) ? 1 : 0);
            refused("window, both", NO_WHAT, p -> p.window(far, far, far));
            refused("least, both", NO_WHAT, p -> p.least(far, far));
            refused("widest, both", NO_WHAT, p -> p.widest(far, far));
            refused("cut, all", NO_SUCH, p -> p.cut(far, far, far));
            refused("cut, sentence and n", NO_SUCH, p -> p.cut(far, far, 0));
            refused("cut, sentence and what", NO_SUCH, p -> p.cut(far, 10, far));
            refused("cut, n and what", NO_WHAT, p -> p.cut(0, far, far));
            refused("set, both", NO_WHAT, p -> p.set(far, far));
            refused("common, both", NO_SUCH, p -> p.common(far, far));
        }
        refused("choose, no sentence, three being chosen", NO_SUCH, p -> p.choose(4));
        refused("drop, no sentence", NO_SUCH, p -> p.drop(4));
    }

    private static void asked(String what, ToIntFunction<PassagePicker> call) {
        State.unchanged(what, FILLED, call::applyAsInt);
    }

    private static void questions() {
        Check.sentence("Nothing is promised beyond the answers and state changes described above,");
        asked("fault", PassagePicker::fault);
        asked("sign", p -> p.sign(3));
        asked("signOf", p -> p.signOf(3));
        asked("word", p -> p.word(2, 4));
        asked("sentence", p -> p.sentence(1, 8));
        asked("item", p -> p.item(0, 3));
        asked("fits", p -> p.fits(0, 0, 2) ? 1 : 0);
        asked("match", p -> p.match(0, 0));
        asked("window", p -> p.window(3, 0, 0));
        asked("windows", p -> p.window(3, -1, 0));
        asked("least", p -> p.least(3, 0));
        asked("most", p -> p.most(600));
        asked("widest", p -> p.widest(600, 0));
        asked("cut", p -> p.cut(0, 10, 0));
        asked("set", p -> p.set(3, 0));
        asked("common", p -> p.common(0, 1));
        asked("step", p -> p.step(0));
        asked("GREEDY", p -> p.choice(false));
        asked("BEST", p -> p.choice(true));
        asked("exchange", p -> p.exchange(0));
        asked("rank", p -> p.rank(0));
        asked("need", p -> p.need(100));
        asked("loss", p -> p.loss(0));
        asked("octet", p -> p.octet(0));
        asked("marks", p -> p.marks(true));
        for (int what = -1; what <= 15; what++) {
            int of = what;
            asked("count(" + what + ")", p -> p.count(of));
        }
        State.unchanged("choose and drop", FILLED.andThen(p -> p.drop(0)), p -> {
            p.choose(0);
            p.drop(0);
        });
        State.unchanged("a feed and its end", FILLED, p -> {
            p.feed(0x61616161, 0, 0, 0, 0);
            p.end(21);
        });
    }
}
