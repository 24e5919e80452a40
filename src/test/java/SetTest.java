import java.util.NoSuchElementException;

/** Promises 7, 20 to 23 and 29 to 31: tell, set, common, step, choice, rank, need, loss. */
public final class SetTest {
    public static void main(String[] args) {
        tell();
        sets();
        common();
        steps();
        stepsOfLikes();
        oneAlone();
        best();
        rank();
        need();
        loss();
        Check.finish();
    }

    private static void tell() {
        PassagePicker picker = Samples.picker();
        Check.equal("BUDGET was", picker.tell(0, 700), 200);
        Check.equal("BUDGET was 700", picker.tell(0, 20), 700);
        Check.equal("MOST was", picker.tell(1, 6), 3);
        Check.equal("MOST was 6", picker.tell(1, 1), 6);
        Check.equal("LIMIT was", picker.tell(2, 100), 60);
        Check.equal("LIMIT was 100", picker.tell(2, 0), 100);
        picker.choose(0);
        int[][] wrong = {{0, 19}, {0, 701}, {1, 0}, {1, 7}, {2, -1}, {2, 101}};
        for (int[] row : wrong) {
            Check.throwing("tell(" + row[0] + ", " + row[1] + ")", IllegalArgumentException.class,
                    () -> picker.tell(row[0], row[1]));
        }
        Check.throwing("tell, what 3", NoSuchElementException.class, () -> picker.tell(3, 1));
        Check.throwing("tell, what -1", NoSuchElementException.class, () -> picker.tell(-1, 9999));
        Check.equal("all stays", picker.count(6) * 10000 + picker.count(7) * 1000 + picker.count(8), 201000);
        Check.equal("the chosen stay", picker.count(9), 1);
        for (int what = 0; what < 3; what++) {
            picker.tell(0, 20);
            picker.choose(0);
            picker.tell(what, what == 0 ? 20 : what == 1 ? 1 : 0);
            Check.equal("none is chosen behind tell " + what, picker.count(9), 0);
        }
    }

    private static void sets() {
        PassagePicker picker = Samples.picker();
        int[][] due = {{0, 0, 1, 0}, {80, 20, 1, 3}, {70, 22, 1, 5}, {115, 42, 1, 7}, {20, 13, 1, 4},
            {100, 33, 1, 7}, {76, 35, 1, 5}, {121, 55, 1, 7}, {10, 22, 1, 8}};
        for (int set = 0; set < due.length; set++) {
            for (int what = 0; what < 4; what++) {
                Check.equal("set(" + set + ", " + what + ")", picker.set(set, what), due[set][what]);
            }
        }
        Check.equal("all four", picker.set(15, 0), 131);
        Check.equal("are too many", picker.set(15, 2), 0);
        picker.tell(1, 4);
        Check.equal("four may be", picker.set(15, 2), 1);
        Check.equal("their length", picker.set(15, 1), 77);
        picker.tell(0, 77);
        Check.equal("just within", picker.set(15, 2), 1);
        picker.tell(0, 76);
        Check.equal("too long", picker.set(15, 2), 0);
        picker.tell(2, 28);
        Check.equal("not more in common", picker.set(3, 2), 1);
        picker.tell(2, 27);
        Check.equal("too much in common", picker.set(3, 2), 0);
        Check.equal("in common with none", picker.set(5, 2), 1);
        for (int set : new int[] {16, 17, -1, Integer.MIN_VALUE}) {
            Check.throwing("set " + set, IllegalArgumentException.class, () -> picker.set(set, 0));
            Check.throwing("set, what first", NoSuchElementException.class, () -> picker.set(set, 4));
        }
        Check.throwing("set, what -1", NoSuchElementException.class, () -> picker.set(1, -1));
        Check.equal("three and more", Check.picker("a a a a!", "item 9 a;").set(1, 0), 126);
    }

    private static void common() {
        PassagePicker picker = new PassagePicker();
        Check.page(picker, "Aa bb. BB aa aa! cc bb? !!! ... Aa dd ee.");
        int[][] due = {{100, 100, 33, 0, 0, 25}, {100, 100, 33, 0, 0, 25}, {33, 33, 100, 0, 0, 0},
            {0, 0, 0, 100, 0, 0}, {0, 0, 0, 0, 100, 0}, {25, 25, 0, 0, 0, 100}};
        for (int s = 0; s < 6; s++) {
            for (int other = 0; other < 6; other++) {
                Check.equal("common(" + s + ", " + other + ")", picker.common(s, other), due[s][other]);
            }
        }
        Check.equal("rounded down", Check.picker("aa bb cc. aa bb dd.", "").common(0, 1), 50);
        Check.equal("66", Check.picker("aa bb cc. aa bb.", "").common(1, 0), 66);
        Check.throwing("common, no first", IndexOutOfBoundsException.class, () -> picker.common(6, 0));
        Check.throwing("common, no second", IndexOutOfBoundsException.class, () -> picker.common(0, 6));
        Check.throwing("common, -1", IndexOutOfBoundsException.class, () -> picker.common(0, -1));
        Check.throwing("common, none", IndexOutOfBoundsException.class, () -> picker.common(-1, -1));
        Check.equal("words from 64 on", Check.picker(manyWords(), "").common(12, 13), 100);
        Check.equal("none of them", Check.picker(manyWords(), "").common(11, 12), 0);
        // Words 63 to 65 stand at the border of two rows of bits.
        StringBuilder page = new StringBuilder();
        for (int w = 0; w < 70; w++) {
            page.append((char) ('a' + w / 10)).append((char) ('a' + w % 10)).append(w % 10 == 9 ? "! " : " ");
        }
        PassagePicker border = Check.picker(page + "aa gd. gc ge. gd ge gf. gf gg ab.", "");
        Check.equal("1 of 11", border.common(6, 7), 9);
        Check.equal("2 of 10", border.common(6, 8), 20);
        Check.equal("3 of 10", border.common(6, 9), 30);
        Check.equal("1 of 4", border.common(7, 9), 25);
        Check.equal("1 of 11 again", border.common(0, 7), 9);
        Check.equal("unlike words of all", border.count(10), 70);
        Check.equal("echo", border.sentence(8, 10), 9);
        Check.page(border, "zz. yy. xx. ww. vv. uu. tt. ss. rr.");
        Check.equal("nothing in common any more", border.common(6, 8), 0);
        Check.equal("one word", border.sentence(6, 5), 1);
        // One word of ninety-nine: one hundredth is an echo too.
        StringBuilder one = new StringBuilder("ab! ");
        for (int w = 0; w < 99; w++) {
            one.append((char) ('a' + w / 10)).append((char) ('a' + w % 10)).append(' ');
        }
        PassagePicker little = Check.picker(one.toString(), "");
        Check.equal("1 of 99", little.common(0, 1), 1);
        Check.equal("an echo", little.sentence(0, 10), 1);
    }

    // Thirteen sentences of seven unlike words each, the last one twice.
    private static String manyWords() {
        StringBuilder page = new StringBuilder();
        for (int s = 0; s < 14; s++) {
            for (int w = 0; w < 7; w++) {
                page.append((char) ('a' + Math.min(s, 12))).append((char) ('a' + w)).append(w == 6 ? "! " : " ");
            }
        }
        return page.toString();
    }

    private static void steps(PassagePicker picker, int... due) {
        for (int k = 0; k < due.length; k++) {
            Check.equal("step(" + k + ")", picker.step(k), due[k]);
        }
        Check.equal("no step more", picker.step(due.length), -1);
        Check.equal("step(-1)", picker.step(-1), -1);
    }

    private static void steps() {
        PassagePicker picker = Samples.picker();
        steps(picker, 0, 1, 2);
        Check.equal("greedy", picker.choice(false), 7);
        picker.tell(1, 6);
        steps(picker, 0, 1, 2, 3);
        picker.tell(0, 41);
        steps(picker, 0, 2);
        picker.tell(0, 200);
        picker.tell(2, 20);
        steps(picker, 0, 2, 3);
        picker.tell(2, 0);
        steps(picker, 0, 2);
        steps(Check.picker("aa. bb.", ""));
        steps(Check.picker("aa. aa. aa. aa! aa? aa.", "item 1 aa;"), 0);
        PassagePicker less = Check.picker("aa. aa. aa. aa! aa? aa.", "item 1 aa;");
        less.tell(2, 100);
        less.tell(1, 6);
        steps(less, 0, 1, 2);
    }

    private static void stepsOfLikes() {
        // 10 by 10 and 20 by 20: the greater gain; then 10 by 10 twice: the first.
        PassagePicker picker = Check.picker("aa 123. bb 123456 123456. cc 123.", "item 1 aa; item 2 bb; item 1 cc;");
        Check.equal("lengths", picker.set(1, 1) * 10000 + picker.set(2, 1) * 100 + picker.set(4, 1), 112111);
        PassagePicker even = Check.picker("aa 12. bb 123456 12345. cc 12.", "item 1 aa; item 2 bb; item 1 cc;");
        Check.equal("even lengths", even.set(1, 1) * 10000 + even.set(2, 1) * 100 + even.set(4, 1), 102010);
        steps(even, 1, 0, 2);
        // Without the 4 for each it would be 10 by 6 ahead of 20 by 13; with it 20 by 17 is ahead of 10 by 10.
        PassagePicker each = Check.picker("aa 12. bb 123456789.", "item 1 aa; item 2 bb;");
        steps(each, 1, 0);
        // What a sentence gains counts, not what it is worth.
        PassagePicker gains = Check.picker("aa bb. aa bb cc. dd.", "item 2 aa; item 2 bb; item 1 dd;");
        steps(gains, 0, 2);
        gains.tell(2, 100);
        steps(gains, 0, 2, 1);
    }

    private static void oneAlone() {
        String page = "aa. bb 123456789 123456789 123456789.";
        PassagePicker picker = Check.picker(page, "item 2 aa; item 9 bb;");
        picker.tell(0, 38);
        steps(picker, 0);
        Check.equal("the one alone is worth more", picker.choice(false), 2);
        Check.equal("it is the best too", picker.choice(true), 2);
        picker.tell(0, 37);
        Check.equal("the one alone may just be", picker.choice(false), 2);
        picker.tell(0, 36);
        Check.equal("the one alone may not be", picker.choice(false), 1);
        PassagePicker like = Check.picker("aa. bb 123456789 123456789 123456789.", "item 2 aa; item 2 bb;");
        like.tell(0, 38);
        Check.equal("not if it is no greater", like.choice(false), 1);
        PassagePicker first = Check.picker("aa. bb 123456789 123456789 123456789. bb cc 123456789 123456789 12345.",
                "item 2 aa; item 9 bb;");
        first.tell(0, 38);
        Check.equal("the first of like ones", first.choice(false), 2);
        PassagePicker ahead = Check.picker("bb 123456789 123456789 123456789. aa.", "item 2 aa; item 9 bb;");
        ahead.tell(0, 38);
        Check.equal("the one alone ahead", ahead.choice(false), 1);
    }

    private static void best() {
        PassagePicker picker = Samples.picker();
        Check.equal("best", picker.choice(true), 11);
        Check.equal("again", picker.choice(true), 11);
        picker.tell(1, 2);
        Check.equal("best two", picker.choice(true), 3);
        picker.tell(1, 1);
        Check.equal("best one", picker.choice(true), 1);
        picker.tell(1, 6);
        Check.equal("best of all", picker.choice(true), 15);
        picker.tell(0, 20);
        Check.equal("best in 20", picker.choice(true), 1);
        picker.tell(0, 40);
        Check.equal("best in 40", picker.choice(true), 5);
        picker.tell(0, 200);
        picker.tell(2, 20);
        Check.equal("not both with too much in common", picker.choice(true), 13);
        PassagePicker likes = Check.picker("aa xx. aa. bb. aa! cc.", "item 1 aa;");
        likes.tell(1, 1);
        Check.equal("the shortest, then the least bits", likes.choice(true), 2);
        likes.tell(1, 6);
        likes.tell(2, 100);
        Check.equal("no sentence for nothing", likes.choice(true), 11);
        PassagePicker bits = Check.picker("aa 1. bb 2. aa bb.", "item 1 aa; item 1 bb;");
        bits.tell(2, 0);
        Check.equal("one instead of two, as it is shorter", bits.choice(true), 4);
        PassagePicker tie = Check.picker("bb. aa. bb! aa!", "item 1 aa; item 1 bb;");
        tie.tell(1, 2);
        tie.tell(2, 0);
        Check.equal("of like sets the least bits", tie.choice(true), 3);
        PassagePicker late = Check.picker("aa. bb. cc. dd.", "item 1 aa; item 1 bb; item 1 cc; item 1 dd;");
        late.tell(1, 2);
        Check.equal("the least bits of six", late.choice(true), 3);
        Check.query(late, "item 2 aa; item 3 bb; item 3 cc; item 4 dd;");
        late.tell(1, 1);
        Check.equal("the last one", late.choice(true), 8);
        late.tell(1, 2);
        Check.page(late, "aa bb. aa cc. bb dd. cc dd!");
        Check.query(late, "item 1 aa; item 1 bb; item 1 cc; item 1 dd;");
        late.tell(2, 0);
        Check.equal("the least bits, found later", late.choice(true), 6);
        Check.page(late, "aa bb. aa cc. bb 1 dd. cc dd!");
        Check.equal("but not if they are longer", late.choice(true), 9);
        Check.page(late, "aa bb 123456789 123456789. aa bb 123456789 123456789.");
        Check.equal("one alone", late.choice(true), 1);
        late.tell(0, 20);
        Check.equal("none has room", late.choice(true), 0);
        Check.equal("nothing is sought", Check.picker("aa.", "").choice(true), 0);
        Check.query(picker, "item 9 run;");
        Check.equal("a new query", picker.choice(true), 4);
    }

    private static void rank() {
        PassagePicker picker = Check.picker("cc. aa. bb! aa. dd. aa bb.", "item 1 aa; item 2 bb;");
        int[] due = {5, 2, 1, 3, 0, 4};
        for (int k = 0; k < due.length; k++) {
            Check.equal("rank(" + k + ")", picker.rank(k), due[k]);
        }
        Check.equal("rank behind all", picker.rank(6), -1);
        Check.equal("rank(-1)", picker.rank(-1), -1);
    }

    private static void need(PassagePicker picker, int w, int due) {
        Check.equal("need(" + w + ")", picker.need(w), due);
    }

    private static void need() {
        PassagePicker picker = Samples.picker();
        picker.tell(0, 20);
        need(picker, 1, 20);
        need(picker, 20, 20);
        need(picker, 80, 20);
        need(picker, 81, 33);
        need(picker, 100, 33);
        need(picker, 101, 42);
        need(picker, 116, 55);
        need(picker, 122, 64);
        need(picker, 125, 64);
        need(picker, 126, -1);
        need(picker, 1008, -1);
        picker.tell(1, 4);
        need(picker, 131, 77);
        need(picker, 132, -1);
        picker.tell(2, 20);
        need(picker, 110, 55);
        need(picker, 111, -1);
        Check.equal("BUDGET stays", picker.count(6), 20);
        Check.equal("best stays", picker.choice(true), 1);
        for (int w : new int[] {0, 1009, -1, Integer.MIN_VALUE}) {
            Check.throwing("need(" + w + ")", IllegalArgumentException.class, () -> picker.need(w));
        }
        String terms = "item 9 a;item 9 b;item 9 c;item 9 d;item 9 e;item 9 f;item 9 g;item 9 h;";
        PassagePicker all = Check.picker("a b c d e f g h a b c d e f g h a b c d e f g h", terms);
        Check.equal("the greatest worth", all.count(11), 1008);
        need(all, 1008, 51);
    }

    private static void loss() {
        PassagePicker picker = Samples.picker();
        int[] due = {39, 15, 0, 4};
        for (int s = 0; s < 4; s++) {
            Check.equal("loss(" + s + ")", picker.loss(s), due[s]);
        }
        Check.equal("best stays", picker.choice(true), 11);
        picker.tell(1, 1);
        Check.equal("loss of the best one", picker.loss(0), 10);
        Check.equal("loss of the second", picker.loss(1), 0);
        Check.throwing("loss, no sentence", IndexOutOfBoundsException.class, () -> picker.loss(4));
        Check.throwing("loss, -1", IndexOutOfBoundsException.class, () -> picker.loss(-1));
    }
}
