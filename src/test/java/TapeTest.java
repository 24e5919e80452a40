/** Promises 1 to 3: a new object, feed, end. */
public final class TapeTest {
    public static void main(String[] args) {
        newObject();
        feed();
        end();
        usedUp();
        Check.finish();
    }

    private static void newObject() {
        PassagePicker picker = new PassagePicker();
        int[] due = {0, 0, 0, 0, 0, 0, 200, 3, 60, 0, 0, 0, 0, 0, 100};
        for (int what = 0; what < due.length; what++) {
            Check.equal("new count(" + what + ")", picker.count(what), due[what]);
        }
        Check.equal("new fault()", picker.fault(), -1);
        Check.equal("new octet(0)", picker.octet(0), -1);
        Check.equal("NONE", PassagePicker.NONE, -1);
        Check.equal("page of nothing", picker.page(), 0);
        Check.equal("query of nothing", picker.query(), 0);
    }

    private static void feed() {
        PassagePicker picker = new PassagePicker();
        Check.equal("first feed", picker.feed(0x61626364, 0x65666768, 0x20202020, 0xC3A9FF80, 0x7F0000FF), 20);
        picker.page();
        Check.equal("bytes", picker.count(0), 20);
        Check.equal("highest byte first", picker.word(0, 1), 8);
        Check.equal("pairs from numbers below 0", picker.word(1, 0), 12);
        Check.equal("two pairs", picker.word(1, 2), 2);
        for (int times = 1; times <= 30; times++) {
            Check.equal("feed " + times, picker.feed(1, 2, 3, 4, 5), 20 * times);
        }
        Check.equal("feed above 600", picker.feed(1, 2, 3, 4, 5), -1);
        Check.yes("nothing came", picker.end(600));
        Check.yes("all but one", picker.end(581));
        Check.equal("no room for twenty", picker.feed(1, 2, 3, 4, 5), -1);
        Check.yes("581 stay", picker.end(581));
        Check.no("no more than 581", picker.end(582));
        Check.yes("room again", picker.end(580));
        Check.equal("feed to 600", picker.feed(0x61616161, 0, 0, 0, 0), 600);
        picker.page();
        Check.equal("600 bytes", picker.count(0), 600);
        Check.equal("behind the first 580", picker.word(0, 0), 580);
    }

    private static void end() {
        PassagePicker picker = new PassagePicker();
        Check.yes("end(0) of nothing", picker.end(0));
        Check.no("end(1) of nothing", picker.end(1));
        Check.no("end(-1)", picker.end(-1));
        picker.feed(0x61616161, 0x61616161, 0, 0, 0);
        Check.no("end(-1) of twenty", picker.end(-1));
        Check.no("end(21) of twenty", picker.end(21));
        Check.no("end of the least number", picker.end(Integer.MIN_VALUE));
        Check.no("end of the greatest number", picker.end(Integer.MAX_VALUE));
        Check.yes("end(20) of twenty", picker.end(20));
        Check.yes("end(5)", picker.end(5));
        Check.no("end(6) of five", picker.end(6));
        picker.page();
        Check.equal("five bytes", picker.count(0), 5);
    }

    private static void usedUp() {
        PassagePicker picker = new PassagePicker();
        Check.page(picker, "fox.");
        Check.no("page() uses it up", picker.end(1));
        Check.query(picker, "item 1 fox;");
        Check.no("query() uses it up", picker.end(1));
        Check.feed(picker, "wrong");
        Check.throwing("a wrong text", IllegalArgumentException.class, picker::query);
        Check.no("a wrong query uses it up", picker.end(1));
        Check.yes("and leaves it empty", picker.end(0));
    }
}
