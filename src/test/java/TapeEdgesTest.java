/** Promises 1 to 6, and how long an object is used: the edges of a new object, the tape, and what is read from it. */
public final class TapeEdgesTest {
    private static final String FEED = "Twenty bytes come behind the TAPE, of each number the highest first: how many it has; "
            + "NONE, and none come, if it would have more than 600.";
    private static final String END = "The TAPE has its first n bytes alone: true; false, and nothing happens, if it has fewer, "
            + "or n is below 0.";

    public static void main(String[] args) {
        newObject();
        twentyBytes();
        sixHundredBytes();
        firstBytesAlone();
        fewerBytes();
        page();
        pageBehindAnother();
        query();
        queryBehindAnother();
        fault();
        fiveHundredAndTwelveCalls();
        Check.finish();
    }

    private static void newObject() {
        Check.sentence("An empty page, no ITEMS.");
        PassagePicker picker = new PassagePicker();
        int[] due = {0, 0, 0, 0, 0, 0, 200, 3, 60, 0, 0, 0, 0, 0, 100};
        for (int what = 0; what < due.length; what++) {
            Check.equal("count(" + what + ")", picker.count(what), due[what]);
        }
        Check.indices("word", 0, w -> picker.word(w, 0));
        Check.indices("sentence", 0, s -> picker.sentence(s, 0));
        Check.indices("item", 0, i -> picker.item(i, 0));
        Check.indices("match", 0, m -> picker.match(m, 0));
        Check.nones("sign", 0, picker::sign);
        Check.nones("signOf", 0, picker::signOf);
        Check.nones("octet", 0, picker::octet);
        Check.nones("step", 0, picker::step);
        Check.nones("rank", 0, picker::rank);
        Check.equal("marks", picker.marks(true) + picker.marks(false), 0);
        Check.equal("fault", picker.fault(), -1);
        Check.equal("NONE", PassagePicker.NONE, -1);
        Check.no("a tape", picker.end(1));
        Check.equal("the page of no tape", picker.page(), 0);
        Check.equal("the query of no tape", picker.query(), 0);
    }

    private static void twentyBytes() {
        Check.sentence(FEED);
        PassagePicker picker = new PassagePicker();
        Check.equal("the first twenty", picker.feed(0x41424344, 0x45464748, 0x494A4B4C, 0x4D4E4F50, 0x51525354), 20);
        Check.equal("twenty more", picker.feed(0x80FF7F00, -1, Integer.MIN_VALUE, Integer.MAX_VALUE, 0x20C3A921), 40);
        picker.page();
        picker.tell(0, 700);
        picker.choose(0);
        picker.write(600);
        Check.equal("the bytes", Check.written(picker), "ABCDEFGHIJKLMNOPQRST\u0080\u00ff\u007f\u0000\u00ff\u00ff\u00ff\u00ff"
                + "\u0080\u0000\u0000\u0000\u007f\u00ff\u00ff\u00ff \u00c3\u00a9!");
    }

    private static void sixHundredBytes() {
        Check.sentence(FEED);
        PassagePicker picker = new PassagePicker();
        for (int times = 1; times <= 30; times++) {
            Check.equal("feed " + times, picker.feed(0x61616161, 0x61616161, 0x61616161, 0x61616161, 0x61616161), 20 * times);
        }
        Check.equal("620", picker.feed(0, 0, 0, 0, 0), -1);
        Check.equal("620 again", picker.feed(0, 0, 0, 0, 0), -1);
        for (int room = 1; room < 20; room++) {
            Check.yes("end", picker.end(600 - room));
            Check.equal("room for " + room, picker.feed(0, 0, 0, 0, 0), -1);
            Check.no("none came", picker.end(600 - room + 1));
        }
        Check.yes("end(580)", picker.end(580));
        Check.equal("room for twenty", picker.feed(0x62626262, 0, 0, 0, 0), 600);
        Check.equal("no room for more", picker.feed(0x63636363, 0, 0, 0, 0), -1);
        picker.page();
        Check.equal("the page", picker.count(0), 600);
        Check.equal("a word of what came", picker.word(0, 1), 584);
        Check.equal("the tape is empty", picker.feed(0, 0, 0, 0, 0), 20);
        State.unchanged("a feed without room", full -> Check.feed(full, "ab ".repeat(200)),
                full -> full.feed(0x61616161, 0, 0, 0, 0));
        State.unchanged("a feed without room for one", full -> Check.feed(full, "ab ".repeat(193) + "ab"),
                full -> full.feed(0x61616161, 0, 0, 0, 0));
    }

    private static void firstBytesAlone() {
        Check.sentence(END);
        for (int n = 0; n <= 20; n++) {
            PassagePicker picker = new PassagePicker();
            picker.feed(0x61616161, 0x61616161, 0x61616161, 0x61616161, 0x61616161);
            Check.yes("end(" + n + ")", picker.end(n));
            Check.no("no more than " + n, picker.end(n + 1));
            Check.yes("end(" + n + ") again", picker.end(n));
            Check.equal("feed behind " + n, picker.feed(0x62626262, 0, 0, 0, 0), n + 20);
            picker.page();
            Check.equal("bytes", picker.count(0), n + 20);
            Check.equal("the first n bytes and what came behind", picker.word(0, 1), n + 4);
        }
        PassagePicker full = new PassagePicker();
        Check.feed(full, "a".repeat(600));
        Check.yes("end(600)", full.end(600));
        Check.yes("end(599)", full.end(599));
        Check.no("end(600) behind end(599)", full.end(600));
        full.page();
        Check.equal("599 bytes", full.count(0), 599);
        Check.yes("end(0) of nothing", full.end(0));
        Check.no("end(1) of nothing", full.end(1));
    }

    private static void fewerBytes() {
        Check.sentence(END);
        for (int n : new int[] {-1, 21, 600, 601, Integer.MIN_VALUE, Integer.MAX_VALUE}) {
            PassagePicker picker = new PassagePicker();
            picker.feed(0x61616161, 0, 0, 0, 0);
            Check.no("end(" + n + ") of twenty", picker.end(n));
            Check.yes("twenty stay", picker.end(20));
            State.unchanged("end(" + n + ")", p -> {
                Check.page(p, Samples.PAGE);
                Check.query(p, Samples.QUERY);
                p.choose(1);
                Check.feed(p, "ab cd. ef");
            }, p -> p.end(n));
        }
    }

    private static void page() {
        Check.sentence("Uses the TAPE up: it is the page: how many SENTENCES.");
        PassagePicker picker = new PassagePicker();
        Check.equal("no sentence", Check.page(picker, " "), 0);
        Check.equal("one sentence", Check.page(picker, "a"), 1);
        Check.no("it is used up", picker.end(1));
        Check.equal("the page of what is used up", picker.page(), 0);
        Check.equal("its bytes", picker.count(0), 0);
        Check.equal("its words", picker.count(2), 0);
        Check.equal("fourteen sentences", Check.page(picker, "a! ".repeat(200)), 14);
        Check.equal("600 bytes", picker.count(0), 600);
        Check.equal("fewer behind more", Check.page(picker, "b c! d"), 2);
        Check.indices("words of the new page", 3, w -> picker.word(w, 0));
        Check.indices("sentences of the new page", 2, s -> picker.sentence(s, 0));
        Check.nones("signs of the new page", 6, picker::sign);
        Check.nones("bytes of the new page", 6, picker::signOf);
    }

    private static final String[] PAGES = {"", " \n\n", "a", Samples.PAGE, "a b c! ".repeat(14), "fox dog red ".repeat(50),
        Samples.words(0, 25) + Samples.words(25, 60) + Samples.words(60, 80) + Samples.words(80, 100), "- -! 1 2! ? ! .",
        "\u00c3\u00a9 \u00c3\u00a9! fox", "fox fox red fox\n\nfox dog. x! y! z!", "\u00c3".repeat(600)};
    private static final String[] QUERIES = {"", "item 1 a;", Samples.QUERY, "item 9 soft a b c d*;".repeat(8),
        "item 2 fox; item 3 soft fox*; item 4 dog red; item 5 soft dog;", "item 1 fox dog red fox; item 2 fox dog;",
        "item 9 a;item 8 b;item 7 c;item 6 d;item 5 x;item 4 y;item 3 z;item 2 soft fox;",
        "item 1 a*; item 2 fo*; item 3 do*;", "item 1 a; item 2 fo; item 3 do;"};

    private static void pageBehindAnother() {
        Check.sentence("Uses the TAPE up: it is the page: how many SENTENCES.");
        for (String query : new String[] {QUERIES[2], QUERIES[6]}) {
            for (String page : PAGES) {
                String due = State.behind(p -> told(p, page, query));
                for (String ahead : PAGES) {
                    Check.equal("the page [" + page + "] behind [" + ahead + "]",
                            State.behind(p -> Check.page(used(p, ahead, query), page)), due);
                }
            }
        }
    }

    private static void queryBehindAnother() {
        Check.sentence("Uses the TAPE up: it is the query: how many ITEMS.");
        for (String page : new String[] {PAGES[3], PAGES[4], PAGES[9]}) {
            for (String query : QUERIES) {
                String due = State.behind(p -> Check.page(told(p, "", query), page));
                for (String ahead : QUERIES) {
                    Check.equal("the query [" + query + "] behind [" + ahead + "]",
                            State.behind(p -> Check.query(used(p, page, ahead), query)), due);
                }
            }
        }
    }

    // What was asked for and chosen ahead must leave nothing behind.
    private static PassagePicker used(PassagePicker picker, String page, String query) {
        told(picker, page, query);
        picker.take(true);
        picker.step(0);
        picker.count(13);
        picker.widest(600, 0);
        return picker;
    }

    private static PassagePicker told(PassagePicker picker, String page, String query) {
        Check.page(picker, page);
        Check.query(picker, query);
        return picker;
    }

    private static void query() {
        Check.sentence("Uses the TAPE up: it is the query: how many ITEMS.");
        PassagePicker picker = new PassagePicker();
        Check.page(picker, "a b");
        Check.equal("eight items", Check.query(picker, "item 1 a;".repeat(8)), 8);
        Check.no("it is used up", picker.end(1));
        Check.equal("matches", picker.count(5), 8);
        Check.equal("the query of what is used up", picker.query(), 0);
        Check.equal("no matches", picker.count(5), 0);
        Check.equal("one item", Check.query(picker, "item 1 b;"), 1);
        Check.equal("the page stays", picker.count(0), 3);
        Check.sentence("IllegalArgumentException: the text is wrong.");
        Check.feed(picker, "item 1 a; item 1 ");
        Check.throwing("a wrong text", IllegalArgumentException.class, picker::query);
        Check.no("it is used up, too", picker.end(1));
        Check.equal("the item stays", picker.count(4), 1);
        Check.equal("a query behind it", picker.query(), 0);
    }

    private static void fault() {
        Check.sentence("FAULT of the latest query(); NONE without one, and ahead of any.");
        PassagePicker picker = new PassagePicker();
        Check.equal("ahead of any", picker.fault(), -1);
        Check.page(picker, "wrong");
        Check.equal("ahead of any, behind a page", picker.fault(), -1);
        Check.feed(picker, "item");
        Check.equal("a text that is not read", picker.fault(), -1);
        Check.throwing("a wrong text", IllegalArgumentException.class, picker::query);
        Check.equal("its fault", picker.fault(), 4);
        Check.equal("its fault again", picker.fault(), 4);
        Check.page(picker, "a b");
        picker.tell(0, 20);
        Check.equal("it stays behind a page and a tell", picker.fault(), 4);
        Check.feed(picker, "x");
        Check.throwing("another wrong text", IllegalArgumentException.class, picker::query);
        Check.equal("the fault of the latest", picker.fault(), 0);
        Check.query(picker, "");
        Check.equal("none any more", picker.fault(), -1);
        Check.feed(picker, " ".repeat(600));
        picker.end(599);
        Check.equal("no fault of blanks", picker.query(), 0);
        Check.equal("none", picker.fault(), -1);
    }

    private static void fiveHundredAndTwelveCalls() {
        Check.sentence("An object is used for at most 512 calls after it has been made; what later calls answer is free.");
        PassagePicker picker = new PassagePicker();
        for (int call = 1; call <= 9; call++) {
            picker.feed(0x61612120, 0x62622120, 0x63632120, 0x64642120, 0x65652120);
        }
        picker.end(180);
        Check.equal("page, the 11th call", picker.page(), 14);
        for (int call = 12; call <= 508; call += 2) {
            Check.equal("choose, call " + call, picker.choose(13), 0);
            Check.equal("drop, call " + (call + 1), picker.drop(13), 0);
        }
        Check.equal("choose, the 510th call", picker.choose(13), 0);
        Check.equal("write, the 511th call", picker.write(600), 3);
        Check.equal("octet, the 512th call", picker.octet(0), 'd');
    }
}
