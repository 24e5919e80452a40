import java.util.function.Consumer;

/** Terms, part 4: the edges of CHOSEN and EXCHANGE. */
public final class ChosenEdgesTest {
    private static final String EXCHANGE = "EXCHANGE: one of CHOSEN and one that is not, such that the set MAY be with the "
            + "second in place of the first and its WORTH is most more than now; of several the least first, then the least "
            + "second; none, if it would not be more.";
    private static final String SEVEN = "aa! bb! cc! dd! ee! ff! gg!";

    public static void main(String[] args) {
        none();
        noneAnyMore();
        chosenByMost();
        chosenByBudget();
        chosenByLimit();
        dropped();
        inItsPlace();
        exchangeOfOne();
        exchangeThatMayBe();
        exchangeOfSeveral();
        noExchange();
        Check.finish();
    }

    private static void none() {
        Check.sentence("CHOSEN is a set (none at first, and whenever the page, the query, BUDGET, MOST, LIMIT is told):");
        Check.equal("CHOSEN at first", new PassagePicker().count(9), 0);
        PassagePicker picker = Samples.picker();
        Check.equal("CHOSEN behind page and query", picker.count(9), 0);
        Check.equal("nothing is written of it", picker.write(600), 0);
    }

    private static void chosenBehind(String what, int due, Consumer<PassagePicker> calls) {
        PassagePicker picker = Samples.picker();
        picker.choose(0);
        picker.choose(2);
        State.quietly(calls).accept(picker);
        Check.equal("CHOSEN behind " + what, picker.count(9), due);
        Check.equal("GAIN of the first behind " + what, picker.sentence(0, 8), due == 0 ? 80 : 0);
    }

    private static void noneAnyMore() {
        Check.sentence("CHOSEN is a set (none at first, and whenever the page, the query, BUDGET, MOST, LIMIT is told):");
        chosenBehind("the page once more", 0, p -> Check.page(p, Samples.PAGE));
        chosenBehind("the query once more", 0, p -> Check.query(p, Samples.QUERY));
        chosenBehind("BUDGET as it was", 0, p -> p.tell(0, 200));
        chosenBehind("MOST as it was", 0, p -> p.tell(1, 3));
        chosenBehind("LIMIT as it was", 0, p -> p.tell(2, 60));
        chosenBehind("BUDGET 700", 0, p -> p.tell(0, 700));
        chosenBehind("MOST 6", 0, p -> p.tell(1, 6));
        chosenBehind("LIMIT 100", 0, p -> p.tell(2, 100));
        chosenBehind("BUDGET 19", 5, p -> p.tell(0, 19));
        chosenBehind("MOST 7", 5, p -> p.tell(1, 7));
        chosenBehind("LIMIT 101", 5, p -> p.tell(2, 101));
        chosenBehind("what 3", 5, p -> p.tell(3, 20));
        chosenBehind("a wrong query", 5, p -> Check.query(p, "wrong"));
        chosenBehind("a feed", 5, p -> p.feed(0, 0, 0, 0, 0));
        chosenBehind("an end", 5, p -> p.end(0));
        chosenBehind("what is written", 5, p -> p.write(10));
        chosenBehind("what is quoted", 5, p -> p.quote(600));
        chosenBehind("BEST, which is asked for", 5, p -> p.choice(true));
    }

    private static void refused(String what, PassagePicker picker, int sentence) {
        int chosen = picker.count(9);
        Check.equal(what + ": it may not be chosen", picker.sentence(sentence, 9), 0);
        Check.throwing(what, IllegalStateException.class, () -> picker.choose(sentence));
        Check.equal(what + ": CHOSEN stays", picker.count(9), chosen);
    }

    private static void chosen(String what, PassagePicker picker, int sentence) {
        int chosen = picker.count(9);
        Check.equal(what + ": it may be chosen", picker.sentence(sentence, 9), 1);
        Check.equal(what, picker.choose(sentence), picker.set(chosen | 1 << sentence, 0));
        Check.equal(what + ": it is", picker.count(9), chosen | 1 << sentence);
        Check.equal(what + ": not once more", picker.sentence(sentence, 9), 0);
        refused(what + " once more", picker, sentence);
    }

    private static void chosenByMost() {
        Check.sentence("a SENTENCE is chosen (refused, if the set MAY not be then), dropped;");
        PassagePicker picker = Check.picker(SEVEN, "item 1 aa; item 2 bb; item 3 gg;");
        for (int most = 1; most <= 6; most++) {
            picker.tell(1, most);
            for (int s = 6; s > 6 - most; s--) {
                chosen("MOST " + most, picker, s);
            }
            refused("MOST " + most + " and one", picker, 6 - most);
            picker.drop(6);
            chosen("MOST " + most + " behind a drop", picker, 0);
        }
    }

    private static void chosenByBudget() {
        Check.sentence("a SENTENCE is chosen (refused, if the set MAY not be then), dropped;");
        PassagePicker picker = Check.picker("aa 123! bb 123! cc 1234! " + "d".repeat(16) + "!", "");
        picker.tell(0, 22);
        chosen("LENGTH 11 by 22", picker, 0);
        refused("LENGTH 23 by 22", picker, 2);
        chosen("LENGTH 22 by 22", picker, 1);
        picker.tell(0, 21);
        chosen("LENGTH 11 by 21", picker, 0);
        refused("LENGTH 22 by 21", picker, 1);
        picker.tell(0, 20);
        refused("LENGTH 21 by 20", picker, 3);
        picker.tell(0, 21);
        chosen("LENGTH 21 by 21", picker, 3);
        PassagePicker full = Check.picker("a".repeat(600), "");
        full.tell(0, 603);
        refused("LENGTH 604 by 603", full, 0);
        full.tell(0, 604);
        chosen("LENGTH 604 by 604", full, 0);
    }

    private static void chosenByLimit() {
        Check.sentence("a SENTENCE is chosen (refused, if the set MAY not be then), dropped;");
        PassagePicker picker = Check.picker("aa bb! aa cc! dd! aa bb!", "");
        picker.tell(2, 32);
        chosen("33 in common with none", picker, 0);
        refused("33 in common by 32", picker, 1);
        refused("100 in common by 32", picker, 3);
        chosen("0 in common by 32", picker, 2);
        picker.drop(0);
        chosen("33 in common with one that is dropped", picker, 1);
        picker.tell(2, 33);
        chosen("33 in common with none by 33", picker, 0);
        chosen("33 in common by 33", picker, 1);
        picker.tell(2, 99);
        chosen("100 in common with none", picker, 0);
        refused("100 in common by 99", picker, 3);
        picker.tell(2, 100);
        chosen("100 in common with none by 100", picker, 0);
        chosen("100 in common by 100", picker, 3);
    }

    private static void dropped() {
        Check.sentence("a SENTENCE is chosen (refused, if the set MAY not be then), dropped;");
        PassagePicker picker = Check.picker("a! b! c! d! e! f! g! h! i! j! k! l! m! n!", "item 1 a; item 2 n;");
        Check.throwing("none to drop", IllegalStateException.class, () -> picker.drop(0));
        Check.equal("choose the first", picker.choose(0), 10);
        Check.equal("choose the fourteenth", picker.choose(13), 30);
        Check.throwing("one between", IllegalStateException.class, () -> picker.drop(12));
        Check.equal("CHOSEN stays", picker.count(9), 8193);
        Check.equal("drop the fourteenth", picker.drop(13), 10);
        Check.throwing("it is dropped", IllegalStateException.class, () -> picker.drop(13));
        Check.equal("choose it again", picker.choose(13), 30);
        Check.equal("drop the first", picker.drop(0), 20);
        Check.equal("drop the last one", picker.drop(13), 0);
        Check.equal("none is chosen", picker.count(9), 0);
    }

    private static void inItsPlace() {
        Check.sentence("GREEDY, BEST are chosen in its place.");
        PassagePicker picker = Check.picker("xx! aa 12345! bb 12! cc 12!", "item 4 aa; item 3 bb; item 3 cc;");
        picker.tell(0, 20);
        picker.choose(0);
        Check.equal("GREEDY", picker.take(false), 40);
        Check.equal("GREEDY is CHOSEN", picker.count(9), 2);
        Check.equal("BEST", picker.take(true), 60);
        Check.equal("BEST is CHOSEN", picker.count(9), 12);
        Check.query(picker, "");
        picker.choose(0);
        Check.equal("BEST of nothing", picker.take(true), 0);
        Check.equal("none is CHOSEN", picker.count(9), 0);
        picker.choose(0);
        Check.equal("GREEDY of nothing", picker.take(false), 0);
        Check.equal("none is CHOSEN again", picker.count(9), 0);
        Check.equal("BEST on a new object", new PassagePicker().take(true), 0);
    }

    private static void exchange(String what, PassagePicker picker, int first, int second, int more) {
        Check.equal(what + ": the first", picker.exchange(0), first);
        Check.equal(what + ": the second", picker.exchange(1), second);
        Check.equal(what + ": more", picker.exchange(2), more);
    }

    private static void traded(String what, PassagePicker picker, int worth, int chosen) {
        Check.equal(what + ": WORTH", picker.trade(), worth);
        Check.equal(what + ": CHOSEN", picker.count(9), chosen);
    }

    private static void exchangeOfOne() {
        Check.sentence(EXCHANGE);
        PassagePicker picker = Check.picker(SEVEN, "item 1 aa;item 2 bb;item 3 cc;item 4 dd;item 5 ee;item 6 ff;item 7 gg;");
        picker.choose(0);
        exchange("one", picker, 0, 6, 60);
        traded("one", picker, 70, 64);
        exchange("the most", picker, -1, -1, 0);
        picker.choose(0);
        picker.choose(1);
        exchange("three", picker, 0, 5, 50);
        traded("three", picker, 150, 98);
        exchange("two of three", picker, 1, 4, 30);
        traded("two of three", picker, 180, 112);
        exchange("none of three", picker, -1, -1, 0);
    }

    private static void exchangeThatMayBe() {
        Check.sentence(EXCHANGE);
        PassagePicker picker = Check.picker("xx! aa 1234567890! bb 1234567890123!", "item 1 aa; item 9 bb;");
        picker.tell(0, 20);
        picker.choose(0);
        exchange("LENGTH 21 by BUDGET 20", picker, 0, 1, 10);
        picker.tell(0, 21);
        picker.choose(0);
        exchange("LENGTH 21 by BUDGET 21", picker, 0, 2, 90);
        PassagePicker like = Check.picker("aa bb! aa bb cc! dd ee!", "item 1 cc;");
        Check.equal("in common", like.common(0, 1), 66);
        like.choose(0);
        exchange("in common with the first that goes", like, 0, 1, 10);
        like.choose(2);
        exchange("in common with one that stays", like, 0, 1, 10);
        like.tell(2, 66);
        like.choose(0);
        like.choose(2);
        exchange("66 in common by LIMIT 66", like, 0, 1, 10);
        traded("66 in common", like, 10, 6);
        PassagePicker stays = Check.picker("dd ee! aa bb! aa bb cc!", "item 1 cc;");
        stays.choose(0);
        stays.choose(1);
        exchange("only the one that is like", stays, 1, 2, 10);
        stays.tell(2, 66);
        stays.choose(0);
        stays.choose(1);
        exchange("the least first", stays, 0, 2, 10);
    }

    private static void exchangeOfSeveral() {
        Check.sentence(EXCHANGE);
        PassagePicker picker = Check.picker("xx! aa! yy! bb! zz! cc!", "item 1 aa; item 1 bb; item 1 cc;");
        picker.choose(4);
        picker.choose(2);
        exchange("the least first, the least second", picker, 2, 1, 10);
        picker.choose(1);
        exchange("the least second that is not chosen", picker, 2, 3, 10);
        traded("once", picker, 20, 26);
        exchange("the last one of no worth", picker, 4, 5, 10);
        traded("twice", picker, 30, 42);
        exchange("no more", picker, -1, -1, 0);
        PassagePicker last = Check.picker("x! ".repeat(13) + "a!", "item 1 a;");
        last.choose(12);
        exchange("the last two of fourteen", last, 12, 13, 10);
        PassagePicker first = Check.picker("a! " + "x! ".repeat(13), "item 1 a;");
        first.choose(13);
        exchange("the last and the first", first, 13, 0, 10);
    }

    private static void noExchange() {
        Check.sentence(EXCHANGE);
        exchange("a new object", new PassagePicker(), -1, -1, 0);
        Check.throwing("no trade of a new object", IllegalStateException.class, () -> new PassagePicker().trade());
        PassagePicker picker = Check.picker("aa! bb! cc!", "item 1 aa; item 1 bb; item 1 cc;");
        exchange("none is chosen", picker, -1, -1, 0);
        picker.choose(0);
        exchange("it would not be more", picker, -1, -1, 0);
        Check.throwing("no trade", IllegalStateException.class, picker::trade);
        picker.choose(1);
        picker.choose(2);
        exchange("all are chosen", picker, -1, -1, 0);
        Check.throwing("no trade of all", IllegalStateException.class, picker::trade);
        Check.equal("all stay", picker.count(9), 7);
        PassagePicker less = Check.picker("aa! xx!", "item 1 aa;");
        less.choose(0);
        exchange("it would be less", less, -1, -1, 0);
        PassagePicker one = Check.picker("aa! bb!", "item 8 aa; item 9 bb;");
        one.choose(0);
        exchange("just more", one, 0, 1, 10);
        PassagePicker third = Check.picker("aa! aa! aa! aa! xx!", "item 1 aa;");
        third.tell(2, 100);
        third.choose(0);
        third.choose(1);
        third.choose(4);
        exchange("by one", third, 4, 2, 1);
        traded("by one", third, 14, 7);
        exchange("a fourth for a third", third, -1, -1, 0);
    }
}
