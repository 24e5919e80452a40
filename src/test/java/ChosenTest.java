import java.util.NoSuchElementException;

/** Promises 24 to 28: take, choose, drop, exchange, trade. */
public final class ChosenTest {
    public static void main(String[] args) {
        take();
        choose();
        drop();
        exchange();
        exchangeOfLikes();
        trade();
        Check.finish();
    }

    private static void take() {
        PassagePicker picker = Samples.picker();
        Check.equal("take(false)", picker.take(false), 121);
        Check.equal("greedy is chosen", picker.count(9), 7);
        Check.equal("take(true)", picker.take(true), 125);
        Check.equal("best is chosen", picker.count(9), 11);
        PassagePicker none = Check.picker("aa.", "");
        none.choose(0);
        Check.equal("nothing to take", none.take(true), 0);
        Check.equal("in its place", none.count(9), 0);
    }

    private static void choose() {
        PassagePicker picker = Samples.picker();
        Check.equal("choose(2)", picker.choose(2), 20);
        Check.equal("choose(1)", picker.choose(1), 76);
        Check.throwing("it is chosen", IllegalStateException.class, () -> picker.choose(1));
        Check.equal("choose(3)", picker.choose(3), 86);
        Check.throwing("too many", IllegalStateException.class, () -> picker.choose(0));
        Check.equal("all stays", picker.count(9), 14);
        Check.throwing("choose, no sentence", IndexOutOfBoundsException.class, () -> picker.choose(4));
        Check.throwing("choose, -1", IndexOutOfBoundsException.class, () -> picker.choose(-1));
        picker.tell(0, 32);
        picker.choose(0);
        Check.throwing("too long", IllegalStateException.class, () -> picker.choose(2));
        picker.tell(0, 33);
        picker.choose(0);
        Check.equal("just within", picker.choose(2), 100);
        picker.tell(0, 200);
        picker.tell(2, 27);
        picker.choose(1);
        Check.throwing("too much in common", IllegalStateException.class, () -> picker.choose(0));
        PassagePicker plain = Check.picker("aa. bb.", "");
        Check.equal("one of no worth may be chosen", plain.choose(1), 0);
        Check.equal("it is", plain.count(9), 2);
    }

    private static void drop() {
        PassagePicker picker = Samples.picker();
        Check.throwing("drop, not chosen", IllegalStateException.class, () -> picker.drop(0));
        picker.choose(0);
        picker.choose(1);
        Check.throwing("drop, another", IllegalStateException.class, () -> picker.drop(2));
        Check.equal("drop(0)", picker.drop(0), 70);
        Check.equal("one stays", picker.count(9), 2);
        Check.equal("drop(1)", picker.drop(1), 0);
        Check.throwing("drop again", IllegalStateException.class, () -> picker.drop(1));
        Check.throwing("drop, no sentence", IndexOutOfBoundsException.class, () -> picker.drop(4));
        Check.throwing("drop, -1", IndexOutOfBoundsException.class, () -> picker.drop(-1));
    }

    private static void exchange(PassagePicker picker, int first, int second, int more) {
        Check.equal("exchange(0)", picker.exchange(0), first);
        Check.equal("exchange(1)", picker.exchange(1), second);
        Check.equal("exchange(2)", picker.exchange(2), more);
    }

    private static void exchange() {
        PassagePicker picker = Samples.picker();
        exchange(picker, -1, -1, 0);
        picker.choose(2);
        exchange(picker, 2, 0, 60);
        picker.choose(3);
        exchange(picker, 3, 0, 70);
        picker.tell(0, 35);
        picker.choose(2);
        picker.choose(3);
        exchange(picker, 3, 0, 70);
        picker.tell(2, 20);
        picker.tell(0, 200);
        picker.choose(1);
        picker.choose(2);
        exchange(picker, 1, 0, 24);
        picker.tell(2, 60);
        picker.take(true);
        exchange(picker, -1, -1, 0);
        Check.throwing("exchange, what 3", NoSuchElementException.class, () -> picker.exchange(3));
        Check.throwing("exchange, what -1", NoSuchElementException.class, () -> picker.exchange(-1));
    }

    private static void exchangeOfLikes() {
        PassagePicker picker = Check.picker("xx. yy. zz. aa. aa! aa?", "item 1 aa;");
        picker.tell(1, 2);
        picker.choose(2);
        picker.choose(1);
        exchange(picker, 1, 3, 10);
        picker.drop(1);
        picker.choose(4);
        exchange(picker, -1, -1, 0);
        picker.tell(2, 100);
        picker.choose(2);
        picker.choose(4);
        exchange(picker, 2, 3, 3);
        picker.tell(1, 2);
        picker.choose(0);
        picker.choose(5);
        exchange(picker, 0, 3, 3);
    }

    private static void trade() {
        PassagePicker picker = Samples.picker();
        Check.throwing("nothing to trade", IllegalStateException.class, picker::trade);
        picker.choose(2);
        Check.equal("trade", picker.trade(), 80);
        Check.equal("is done", picker.count(9), 1);
        Check.throwing("no trade more", IllegalStateException.class, picker::trade);
        Check.equal("all stays", picker.count(9), 1);
        picker.choose(2);
        Check.equal("another trade", picker.trade(), 115);
        Check.equal("the two", picker.count(9), 3);
    }
}
