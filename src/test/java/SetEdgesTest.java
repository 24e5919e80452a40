/** Terms, part 4: the edges of worth, length and what is in common, of BUDGET, MOST and LIMIT, and of what MAY be. */
public final class SetEdgesTest {
    private static final String WORTH_AND_LENGTH =
            "Of a set of SENTENCES: WORTH of all MATCHES in them; LENGTH: SIGNS of all, and 4 for each.";
    private static final String IN_COMMON = "IN COMMON of two: unlike WORDS that both have, by those that one of them has, "
            + "in hundredths, rounded down (0 without any).";
    private static final String MAY = "A set MAY be, if its LENGTH is BUDGET at most, it has MOST at most, "
            + "no two of it have more IN COMMON than LIMIT.";

    private static final String E = "\u00c3\u00a9";
    private static final String SEVEN = "aa! bb! cc! dd! ee! ff! gg!";

    public static void main(String[] args) {
        worths();
        lengths();
        inCommon();
        inCommonOfMany();
        settings();
        budget();
        most();
        limit();
        anyTwo();
        gains();
        Check.finish();
    }

    private static void set(PassagePicker picker, int set, int worth, int length, int may, int items) {
        int[] due = {worth, length, may, items};
        for (int what = 0; what < 4; what++) {
            Check.equal("set(" + set + ", " + what + ")", picker.set(set, what), due[what]);
        }
    }

    private static void may(String what, PassagePicker picker, int set, boolean due) {
        Check.equal(what + ": set(" + set + ", 2)", picker.set(set, 2), due ? 1 : 0);
    }

    private static void worths() {
        Check.sentence(WORTH_AND_LENGTH);
        set(new PassagePicker(), 0, 0, 0, 1, 0);
        PassagePicker picker = Check.picker("aa! aa? bb! aa. aa bb!", "item 1 aa; item 2 bb; item 9 xx;");
        picker.tell(1, 6);
        picker.tell(2, 100);
        set(picker, 0, 0, 0, 1, 0);
        set(picker, 1, 10, 7, 1, 1);
        set(picker, 3, 13, 14, 1, 1);
        set(picker, 11, 14, 21, 1, 1);
        set(picker, 27, 34, 31, 1, 3);
        set(picker, 4, 20, 7, 1, 2);
        set(picker, 20, 36, 17, 1, 3);
        set(picker, 31, 40, 38, 1, 3);
        PassagePicker last = Check.picker("x! ".repeat(13) + "a!", "item 1 x;item 1 x;item 1 x;item 1 x;item 1 x;"
                + "item 1 x;item 1 x;item 9 a;");
        set(last, 1 << 13, 90, 6, 1, 128);
        set(last, 1, 70, 6, 1, 127);
    }

    private static void lengths() {
        Check.sentence(WORTH_AND_LENGTH);
        PassagePicker picker = Check.picker("aa.  \n " + E + "! bb " + E + E + "?", "");
        int[] due = {0, 7, 6, 13, 10, 17, 16, 23};
        for (int set = 0; set < due.length; set++) {
            Check.equal("LENGTH of " + set, picker.set(set, 1), due[set]);
        }
        PassagePicker all = Check.picker("a! ".repeat(15), "");
        Check.equal("LENGTH of fourteen", all.set(16383, 1), 84);
        Check.equal("LENGTH of the fourteenth", all.set(8192, 1), 6);
        PassagePicker one = Check.picker("a".repeat(600), "");
        Check.equal("LENGTH of 600 signs", one.set(1, 1), 604);
    }

    private static void common(String two, int due) {
        PassagePicker picker = Check.picker(two, "");
        Check.equal("in common: " + two, picker.common(0, 1), due);
        Check.equal("the other way round: " + two, picker.common(1, 0), due);
        Check.equal("one and itself", picker.common(0, 0), 100);
        Check.equal("the other and itself", picker.common(1, 1), 100);
    }

    private static void inCommon() {
        Check.sentence(IN_COMMON);
        common("aa! aa!", 100);
        common("aa! bb!", 0);
        common("aa! aa bb!", 50);
        common("aa! aa bb cc!", 33);
        common("aa bb! aa bb cc!", 66);
        common("aa bb! bb cc!", 33);
        common("aa aa aa! AA bb!", 50);
        common("aa bb cc dd ee ff! aa!", 16);
        common("aa bb cc dd ee ff! aa bb cc dd ee!", 83);
        common("aa! 11!", 0);
        common("11! 11!", 0);
        common("? !", 0);
        common("fox! foxes!", 0);
        common("a" + E + "! A" + E + "!", 100);
        Check.equal("no ECHO of nothing in common", Check.picker("11! 11!", "").sentence(0, 10), -1);
    }

    private static String words(int from, int to) {
        return Samples.words(from, to);
    }

    private static void inCommonOfMany() {
        Check.sentence(IN_COMMON);
        common(words(0, 1) + words(0, 99), 1);
        common(words(0, 99) + words(98, 99), 1);
        common(words(0, 50) + words(0, 50), 100);
        common(words(0, 50) + words(1, 51), 96);
        common(words(0, 50) + words(50, 100), 0);
        // The words of the page from the 63rd to the 66th in a sentence of their own each, and once more.
        for (int k = 62; k < 67; k++) {
            PassagePicker picker = Check.picker(words(0, 62) + words(62, 63) + words(63, 64) + words(64, 65)
                    + words(65, 66) + words(66, 67) + words(k, k + 1) + words(0, 1), "");
            for (int s = 1; s <= 5; s++) {
                Check.equal("word " + k + " in sentence " + s, picker.common(6, s), s == k - 61 ? 100 : 0);
                Check.equal("the first word in sentence " + s, picker.common(7, s), 0);
            }
            Check.equal("unlike words of all", picker.count(10), 67);
        }
        PassagePicker halves = Check.picker(words(0, 60) + words(60, 70) + words(62, 67) + words(64, 74) + words(63, 65), "");
        int[][] dues = {{0, 1, 0}, {1, 2, 50}, {1, 3, 42}, {2, 3, 25}, {1, 4, 20}, {2, 4, 40}, {3, 4, 9}};
        for (int[] row : dues) {
            Check.equal("words round the 64th of " + row[0] + " and " + row[1], halves.common(row[0], row[1]), row[2]);
        }
        PassagePicker last = Check.picker(words(0, 98) + words(98, 99) + words(98, 99) + words(99, 100), "");
        Check.equal("the hundredth word", last.common(1, 2), 100);
        Check.equal("no word behind it", last.sentence(3, 5), 0);
    }

    private static void settings() {
        Check.sentence("BUDGET 20 to 700 (200 at first), MOST 1 to 6 (3), LIMIT 0 to 100 (60).");
        PassagePicker picker = new PassagePicker();
        Check.equal("BUDGET at first", picker.count(6), 200);
        Check.equal("MOST at first", picker.count(7), 3);
        Check.equal("LIMIT at first", picker.count(8), 60);
        Check.numbers("BUDGET", 20, 700, n -> picker.tell(0, n));
        Check.equal("BUDGET", picker.count(6), 700);
        Check.numbers("MOST", 1, 6, n -> picker.tell(1, n));
        Check.equal("MOST", picker.count(7), 6);
        Check.numbers("LIMIT", 0, 100, n -> picker.tell(2, n));
        Check.equal("LIMIT", picker.count(8), 100);
        Check.equal("what BUDGET was", picker.tell(0, 20), 700);
        Check.equal("what MOST was", picker.tell(1, 1), 6);
        Check.equal("what LIMIT was", picker.tell(2, 0), 100);
        Check.equal("BUDGET is 20", picker.tell(0, 20), 20);
        Check.equal("MOST is 1", picker.tell(1, 1), 1);
        Check.equal("LIMIT is 0", picker.tell(2, 0), 0);
    }

    private static void budget() {
        Check.sentence(MAY);
        PassagePicker one = Check.picker("a".repeat(15) + "! " + "b".repeat(16) + "!", "");
        one.tell(0, 20);
        may("LENGTH 20 by BUDGET 20", one, 1, true);
        may("LENGTH 21 by BUDGET 20", one, 2, false);
        may("no SENTENCE", one, 0, true);
        one.tell(0, 21);
        may("LENGTH 21 by BUDGET 21", one, 2, true);
        may("LENGTH 41 by BUDGET 21", one, 3, false);
        one.tell(0, 41);
        may("LENGTH 41 by BUDGET 41", one, 3, true);
        one.tell(0, 40);
        may("LENGTH 41 by BUDGET 40", one, 3, false);
        PassagePicker two = Check.picker("aaaaa! bbbbb! cccccc!", "");
        two.tell(0, 20);
        may("two of LENGTH 20 by BUDGET 20", two, 3, true);
        may("two of LENGTH 21 by BUDGET 20", two, 5, false);
        PassagePicker first = Check.picker("a".repeat(195) + "! " + "b".repeat(196) + "!", "");
        may("LENGTH 200 by BUDGET at first", first, 1, true);
        may("LENGTH 201 by BUDGET at first", first, 2, false);
        PassagePicker full = Check.picker("a".repeat(600), "");
        full.tell(0, 604);
        may("LENGTH 604 by BUDGET 604", full, 1, true);
        full.tell(0, 603);
        may("LENGTH 604 by BUDGET 603", full, 1, false);
        full.tell(0, 700);
        may("LENGTH 604 by BUDGET 700", full, 1, true);
    }

    private static void most() {
        Check.sentence(MAY);
        PassagePicker picker = Check.picker(SEVEN, "");
        for (int size = 0; size <= 7; size++) {
            may(size + " by MOST at first", picker, (1 << size) - 1, size <= 3);
        }
        for (int most = 1; most <= 6; most++) {
            picker.tell(1, most);
            for (int size = 0; size <= 7; size++) {
                may(size + " by MOST " + most, picker, (1 << size) - 1, size <= most);
                may("the last " + size + " by MOST " + most, picker, 127 & -1 << 7 - size, size <= most);
            }
        }
    }

    private static void limit() {
        Check.sentence(MAY);
        String[] pages = {"aa! bb!", "aa! aa bb cc!", "aa! aa bb!", "aa bb cc dd ee! aa bb cc xx!", "aa! aa!", "11! 11!"};
        int[] commons = {0, 33, 50, 50, 100, 0};
        for (int k = 0; k < pages.length; k++) {
            PassagePicker picker = Check.picker(pages[k], "");
            may(pages[k] + " by LIMIT at first", picker, 3, commons[k] <= 60);
            for (int limit : new int[] {0, 1, 32, 33, 34, 49, 50, 51, 60, 99, 100}) {
                picker.tell(2, limit);
                may(pages[k] + " by LIMIT " + limit, picker, 3, commons[k] <= limit);
                may("one alone", picker, 1, true);
                may("the other alone", picker, 2, true);
            }
        }
        Check.equal("50 in common", Check.picker(pages[3], "").common(0, 1), 50);
        PassagePicker sixty = Check.picker("aa bb cc dd! aa bb cc ee! aa bb cc xx yy. aa bb cc dd ee!", "");
        Check.equal("60 in common", sixty.common(0, 1), 60);
        may("60 in common by LIMIT at first", sixty, 3, true);
        Check.equal("80 in common", sixty.common(0, 3), 80);
        may("80 in common by LIMIT at first", sixty, 9, false);
    }

    private static void anyTwo() {
        Check.sentence(MAY);
        // Of seven the first and the last, or two in the midst, are alike.
        PassagePicker ends = Check.picker("aa! bb! cc! dd! ee! ff! aa!", "");
        ends.tell(1, 6);
        may("the first and the last alike", ends, 65, false);
        may("with others between", ends, 93, false);
        may("without the last", ends, 63, true);
        may("without the first", ends, 126, true);
        PassagePicker midst = Check.picker("aa! bb! cc! cc! ee! ff! gg!", "");
        midst.tell(1, 6);
        may("two in the midst alike", midst, 63, false);
        may("without one of them", midst, 59, true);
        may("without the other", midst, 119, true);
        PassagePicker last = Check.picker("x! ".repeat(12) + "y! y!", "");
        may("the last two of fourteen alike", last, 3 << 12, false);
        may("the thirteenth alone", last, 1 << 12, true);
        may("the fourteenth alone", last, 1 << 13, true);
        may("the first and the fourteenth", last, 1 << 13 | 1, true);
    }

    private static void gains() {
        Check.sentence("GAIN of a SENTENCE: by how much WORTH of the set is more with it.");
        PassagePicker picker = Check.picker("aa! aa! aa! aa! bb! aa bb! xx!", "item 7 aa; item 2 bb;");
        picker.tell(1, 6);
        picker.tell(2, 100);
        int[] due = {70, 21, 7, 0};
        for (int s = 0; s < 4; s++) {
            Check.equal("GAIN of " + s, picker.sentence(s, 8), due[s]);
            Check.equal("GAIN of one more match and another item", picker.sentence(5, 8), due[s] + 20);
            picker.choose(s);
            Check.equal("no GAIN of one of these", picker.sentence(s, 8), 0);
        }
        Check.equal("GAIN of another item", picker.sentence(4, 8), 20);
        Check.equal("GAIN of nothing", picker.sentence(6, 8), 0);
        picker.tell(1, 1);
        picker.choose(0);
        Check.equal("GAIN of one that may not be chosen", picker.sentence(4, 8), 20);
        Check.equal("it may not", picker.sentence(4, 9), 0);
    }
}
