import java.util.Arrays;

/** Terms, part 4: the edges of STEPS, GREEDY, BEST, RANK, ECHO, NEED, LOSS, VARIETY and MERIT. */
public final class StepEdgesTest {
    private static final String STEPS = "STEPS: from no SENTENCE on, again and again that one comes with which the set MAY be "
            + "and whose GAIN, above 0, is the greatest by its LENGTH (as a fraction), of several with the greater GAIN, "
            + "then the first; till there is none.";
    private static final String BEST = "BEST: of all sets that MAY be that of the greatest WORTH, of several of the least "
            + "LENGTH, then of the least bits.";
    private static final String NEED = "NEED of w: the least BUDGET (20 to 700), MOST and LIMIT being as they are, "
            + "with which BEST has a WORTH of w at least; none.";

    private static final String SEVEN = "aa! bb! cc! dd! ee! ff! gg!";
    private static final String SEVEN_ITEMS =
            "item 1 aa;item 2 bb;item 3 cc;item 4 dd;item 5 ee;item 6 ff;item 7 gg;";
    /** LENGTHS 13, 10, 10: the first is worth more by its length, the other two are worth more together. */
    private static final String THREE = "aa 12345! bb 12! cc 12!";
    private static final String THREE_ITEMS = "item 4 aa; item 3 bb; item 3 cc;";

    public static void main(String[] args) {
        stepsByFraction();
        stepsOfLikes();
        stepsThatMayBe();
        stepsTillThereIsNone();
        greedy();
        best();
        bestOfSeveral();
        rank();
        echo();
        need();
        needOfTheLeastBudget();
        loss();
        variety();
        merit();
        Check.finish();
    }

    private static void steps(PassagePicker picker, int... due) {
        for (int k = 0; k < due.length; k++) {
            Check.equal("step(" + k + ")", picker.step(k), due[k]);
        }
        Check.nones("step", due.length, picker::step);
    }

    private static PassagePicker three(int budget) {
        PassagePicker picker = Check.picker(THREE, THREE_ITEMS);
        picker.tell(0, budget);
        return picker;
    }

    private static void stepsByFraction() {
        Check.sentence(STEPS);
        // 10 by 7 is more than 20 by 15, though both are 1 rounded down.
        steps(Check.picker("aa! bb 1234567!", "item 1 aa; item 2 bb;"), 0, 1);
        steps(Check.picker("bb 1234567! aa!", "item 1 aa; item 2 bb;"), 1, 0);
        // 10 by 8 is less than 20 by 15.
        steps(Check.picker("aa1! bb 1234567!", "item 1 aa; item 2 bb;"), 1, 0);
        // A sign more is less by its length.
        steps(Check.picker("aa" + "1".repeat(80) + "! bb" + "1".repeat(79) + "!", "item 1 aa; item 1 bb;"), 1, 0);
        steps(Check.picker("aa" + "1".repeat(80) + "! bb" + "1".repeat(80) + "!", "item 1 aa; item 1 bb;"), 0, 1);
        // 90 by 604 of all that a page has.
        steps(Check.picker("a".repeat(12) + "1".repeat(588), "item 9 aaaaaaaaaaaa;"));
        PassagePicker full = Check.picker("a".repeat(12) + "1".repeat(588), "item 9 a*;");
        full.tell(0, 604);
        steps(full, 0);
        full.tell(0, 603);
        steps(full);
    }

    private static void stepsOfLikes() {
        Check.sentence(STEPS);
        // 10 by 10, 20 by 20 and 30 by 30: the greater GAIN first.
        String[] parts = {"aa 12!", "bb 123456789012!", "cc 1234567890123456789012!"};
        String items = "item 1 aa; item 2 bb; item 3 cc;";
        steps(Check.picker(parts[0] + " " + parts[1] + " " + parts[2], items), 2, 1, 0);
        steps(Check.picker(parts[2] + " " + parts[0] + " " + parts[1], items), 0, 2, 1);
        steps(Check.picker(parts[1] + " " + parts[2] + " " + parts[0], items), 1, 0, 2);
        // Like GAIN and LENGTH: the first.
        PassagePicker likes = Check.picker(SEVEN, "item 1 aa;item 1 bb;item 1 cc;item 1 dd;item 1 ee;item 1 ff;item 1 gg;");
        likes.tell(1, 6);
        steps(likes, 0, 1, 2, 3, 4, 5);
    }

    private static void stepsThatMayBe() {
        Check.sentence(STEPS);
        steps(three(33), 0, 1, 2);
        steps(three(32), 0, 1);
        steps(three(23), 0, 1);
        steps(three(22), 0);
        PassagePicker longer = Check.picker("aa! bb 1234567890123! cc 123456!", "item 9 aa; item 9 bb; item 1 cc;");
        longer.tell(0, 28);
        steps(longer, 0, 1);
        longer.tell(0, 27);
        steps(longer, 0, 2);
        longer.tell(0, 21);
        steps(longer, 0, 2);
        longer.tell(0, 20);
        steps(longer, 0);
        PassagePicker like = Check.picker("aa bb! aa bb cc dd! ee ff gg!", "item 9 aa; item 8 cc; item 1 ee;");
        Check.equal("in common", like.common(0, 1), 50);
        like.tell(2, 50);
        steps(like, 1, 0, 2);
        like.tell(2, 49);
        steps(like, 1, 2);
    }

    private static void stepsTillThereIsNone() {
        Check.sentence(STEPS);
        steps(new PassagePicker());
        steps(Check.picker(SEVEN, ""));
        steps(Check.picker("", "item 1 aa;"));
        PassagePicker seven = Check.picker(SEVEN, SEVEN_ITEMS);
        steps(seven, 6, 5, 4);
        int[] order = {6, 5, 4, 3, 2, 1};
        for (int most = 1; most <= 6; most++) {
            seven.tell(1, most);
            steps(seven, Arrays.copyOf(order, most));
        }
        PassagePicker gains = Check.picker("aa! aa! aa! aa! bb 1!", "item 9 aa; item 1 bb;");
        gains.tell(1, 6);
        gains.tell(2, 100);
        steps(gains, 0, 1, 2, 4);
        PassagePicker last = Check.picker("x! ".repeat(13) + "a!", "item 1 a;");
        steps(last, 13);
    }

    private static void greedy() {
        Check.sentence("GREEDY: that set, or the one SENTENCE alone that MAY be with the greatest WORTH (the first), "
                + "if that is greater.");
        Check.equal("GREEDY of nothing", new PassagePicker().choice(false), 0);
        Check.equal("GREEDY where nothing is sought", Check.picker(SEVEN, "").choice(false), 0);
        PassagePicker seven = Check.picker(SEVEN, SEVEN_ITEMS);
        seven.tell(1, 6);
        Check.equal("GREEDY of six", seven.choice(false), 126);
        // aa is more by its length, bb is more alone; 7 + 23 is more than BUDGET.
        String page = "aa! bb 123456789012345! bb cc 123456789012!";
        PassagePicker alone = Check.picker(page, "item 3 aa; item 8 bb;");
        alone.tell(0, 23);
        steps(alone, 0);
        Check.equal("the one alone is greater", alone.choice(false), 2);
        alone.tell(0, 22);
        Check.equal("it may not be", alone.choice(false), 1);
        Check.query(alone, "item 3 aa; item 3 bb;");
        alone.tell(0, 23);
        Check.equal("the one alone is like", alone.choice(false), 1);
        Check.query(alone, "item 3 aa; item 8 bb; item 1 cc;");
        Check.equal("the greatest alone", alone.choice(false), 4);
        Check.equal("take", alone.take(false), 90);
        PassagePicker first = Check.picker("bb 123456789012345! aa!", "item 3 aa; item 8 bb;");
        first.tell(0, 23);
        steps(first, 1);
        Check.equal("the first sentence alone", first.choice(false), 1);
        PassagePicker last = Check.picker("x! ".repeat(13) + "a!", "item 1 a;");
        Check.equal("the fourteenth", last.choice(false), 1 << 13);
    }

    private static void best() {
        Check.sentence(BEST);
        Check.equal("BEST of nothing", new PassagePicker().choice(true), 0);
        Check.equal("BEST where nothing is sought", Check.picker(SEVEN, "").choice(true), 0);
        PassagePicker seven = Check.picker(SEVEN, SEVEN_ITEMS);
        int[] due = {64, 96, 112, 120, 124, 126};
        for (int most = 1; most <= 6; most++) {
            seven.tell(1, most);
            Check.equal("BEST by MOST " + most, seven.choice(true), due[most - 1]);
        }
        for (int budget = 20; budget <= 43; budget++) {
            seven.tell(0, budget);
            Check.equal("BEST by BUDGET " + budget, seven.choice(true), due[Math.min(5, budget / 7 - 1)]);
        }
        int[][] budgets = {{20, 6}, {22, 6}, {23, 3}, {32, 3}, {33, 7}, {700, 7}};
        for (int[] row : budgets) {
            Check.equal("BEST of three by BUDGET " + row[0], three(row[0]).choice(true), row[1]);
        }
        PassagePicker like = Check.picker("aa bb! aa bb cc dd! ee ff gg!", "item 9 aa; item 8 cc; item 1 ee;");
        like.tell(2, 50);
        Check.equal("50 in common by LIMIT 50", like.choice(true), 7);
        like.tell(2, 49);
        Check.equal("50 in common by LIMIT 49", like.choice(true), 6);
        PassagePicker last = Check.picker("x! ".repeat(12) + "a! b!", "item 1 a; item 1 b;");
        Check.equal("the last two of fourteen", last.choice(true), 3 << 12);
        PassagePicker greatest = Check.picker("a b c d e f g h a b c d e f g h a b c d e f g h",
                "item 9 a;item 9 b;item 9 c;item 9 d;item 9 e;item 9 f;item 9 g;item 9 h;");
        Check.equal("the greatest WORTH", greatest.take(true), 1008);
    }

    private static void bestOfSeveral() {
        Check.sentence(BEST);
        Check.equal("a sign shorter", Check.picker("aa1! aa!", "item 1 aa;").choice(true), 2);
        Check.equal("as long", Check.picker("aa1! aa2!", "item 1 aa;").choice(true), 1);
        // LENGTHS 14 for two, and 14, 13 or 15 for the one that has both.
        String[] pages = {"aa! bb! aa bb 123!", "aa! bb! aa bb 12!", "aa! bb! aa bb 1234!", "aa bb 123! aa! bb!",
            "aa bb 12! aa! bb!", "aa bb 1234! aa! bb!"};
        int[] due = {3, 4, 3, 1, 1, 6};
        for (int k = 0; k < pages.length; k++) {
            PassagePicker one = Check.picker(pages[k], "item 1 aa; item 1 bb;");
            one.tell(2, 0);
            Check.equal("one or two of " + pages[k], one.choice(true), due[k]);
        }
        Check.equal("none without worth", Check.picker("xx! aa! yy!", "item 1 aa;").choice(true), 2);
        PassagePicker fourth = Check.picker("aa! aa? aa. aa!", "item 1 aa;");
        fourth.tell(1, 6);
        fourth.tell(2, 100);
        Check.equal("the fourth adds nothing", fourth.choice(true), 7);
        PassagePicker like = Check.picker(SEVEN, "item 1 aa;item 1 bb;item 1 cc;item 1 dd;item 1 ee;item 1 ff;item 1 gg;");
        like.tell(1, 6);
        Check.equal("the least bits of seven", like.choice(true), 63);
        PassagePicker bits = Check.picker("bb! bb! cc! aa! aa!", "item 1 aa; item 1 bb;");
        bits.tell(1, 2);
        Check.equal("the least bits of four sets", bits.choice(true), 9);
        // 0 and 3, or 1 and 2: the second has the lesser bits.
        PassagePicker later = Check.picker("aa bb! aa cc! bb dd! cc dd!", "item 1 aa; item 1 bb; item 1 cc; item 1 dd;");
        later.tell(2, 0);
        Check.equal("the lesser bits of two", later.choice(true), 6);
        Check.page(later, "aa bb! aa cc! bb dd! cc 1 dd!");
        Check.equal("which are shorter, too", later.choice(true), 6);
        Check.page(later, "aa bb! aa cc! bb 1 dd! cc dd!");
        Check.equal("the greater bits, which are shorter", later.choice(true), 9);
    }

    private static void rank() {
        Check.sentence("RANK: SENTENCES by WORTH, the greatest first, of like ones the lesser number.");
        PassagePicker none = new PassagePicker();
        Check.nones("rank of nothing", 0, none::rank);
        PassagePicker picker = Check.picker("x! a! x! b! a! b! x! a! b! x! x! x! x! b!", "item 1 a; item 2 b;");
        int[] due = {3, 5, 8, 13, 1, 4, 7, 0, 2, 6, 9, 10, 11, 12};
        for (int k = 0; k < due.length; k++) {
            Check.equal("rank(" + k + ")", picker.rank(k), due[k]);
        }
        Check.nones("rank of fourteen", 14, picker::rank);
        PassagePicker seven = Check.picker(SEVEN, SEVEN_ITEMS);
        for (int k = 0; k < 7; k++) {
            Check.equal("rank(" + k + ") of seven", seven.rank(k), 6 - k);
        }
        Check.nones("rank of seven", 7, seven::rank);
        Check.equal("one that may not be has a rank too", three(20).rank(0), 0);
    }

    private static void echo(String page, int... due) {
        PassagePicker picker = Check.picker(page, "");
        for (int s = 0; s < due.length; s++) {
            Check.equal("ECHO of " + s + " in " + page, picker.sentence(s, 10), due[s]);
        }
    }

    private static void echo() {
        Check.sentence("ECHO of a SENTENCE: the other one with the most IN COMMON with it, above 0, of several the first; none.");
        echo("aa!", -1);
        echo("aa! bb!", -1, -1);
        echo("11! 11!", -1, -1);
        echo("aa! aa!", 1, 0);
        echo("aa! aa! aa!", 1, 0, 0);
        echo("aa! aa bb! aa bb cc!", 1, 2, 1);
        echo("aa bb! aa! bb!", 1, 0, 0);
        echo("aa bb! aa xx! bb!", 2, 0, 0);
        echo("aa! " + Samples.words(0, 99), 1, 0);
        echo("x! ".repeat(12) + "y! y!", 1, 0, 0, 0, 0, 0, 0, 0, 0, 0, 0, 0, 13, 12);
    }

    private static void need(PassagePicker picker, int w, int due) {
        Check.equal("need(" + w + ")", picker.need(w), due);
    }

    private static void need() {
        Check.sentence(NEED);
        int[][] due = {{1, 20}, {40, 20}, {60, 20}, {61, 23}, {70, 23}, {71, 33}, {100, 33}, {101, -1}, {1008, -1}};
        for (int budget : new int[] {20, 200, 700}) {
            PassagePicker picker = three(budget);
            for (int[] row : due) {
                need(picker, row[0], row[1]);
            }
            Check.equal("BUDGET stays", picker.count(6), budget);
        }
        PassagePicker two = three(20);
        two.tell(1, 2);
        need(two, 70, 23);
        need(two, 71, -1);
        PassagePicker one = three(20);
        one.tell(1, 1);
        need(one, 40, 20);
        need(one, 41, -1);
        PassagePicker like = Check.picker("aa bb! aa bb cc dd!", "item 9 aa; item 8 cc;");
        like.tell(2, 50);
        need(like, 197, 26);
        need(like, 198, -1);
        like.tell(2, 49);
        need(like, 170, 20);
        need(like, 171, -1);
        need(new PassagePicker(), 1, -1);
        need(Check.picker(SEVEN, ""), 1, -1);
        PassagePicker all = Check.picker("a b c d e f g h a b c d e f g h a b c d e f g h",
                "item 9 a;item 9 b;item 9 c;item 9 d;item 9 e;item 9 f;item 9 g;item 9 h;");
        need(all, 1008, 51);
        need(all, 1007, 51);
        Check.numbers("need", 1, 1008, all::need);
    }

    private static void needOfTheLeastBudget() {
        Check.sentence(NEED);
        for (int signs = 1; signs <= 40; signs++) {
            PassagePicker picker = Check.picker("a" + "1".repeat(signs - 1), "item 1 a;");
            need(picker, 10, Math.max(20, signs + 4));
            need(picker, 11, -1);
        }
        need(Check.picker("a" + "1".repeat(599), "item 1 a;"), 1, 604);
        // Six sentences of all signs of a page but the blanks between them: 595 and 24.
        StringBuilder page = new StringBuilder();
        for (int s = 0; s < 6; s++) {
            page.append((char) ('a' + s)).append("1".repeat(s == 5 ? 97 : 98)).append(s == 5 ? "" : "! ");
        }
        PassagePicker six = Check.picker(page.toString(), "item 1 a;item 1 b;item 1 c;item 1 d;item 1 e;item 1 f;");
        six.tell(1, 6);
        Check.equal("LENGTH of all six", six.set(63, 1), six.count(1) - 5 + 24);
        need(six, 60, six.count(1) - 5 + 24);
        need(six, 61, -1);
        need(six, 50, six.count(1) - 5 + 24 - six.set(1, 1));
    }

    private static void loss(PassagePicker picker, int... due) {
        for (int s = 0; s < due.length; s++) {
            Check.equal("loss(" + s + ")", picker.loss(s), due[s]);
        }
        Check.indices("loss", due.length, picker::loss);
    }

    private static void loss() {
        Check.sentence("LOSS of a SENTENCE: by how much WORTH of BEST would be less, could that one not be taken.");
        loss(new PassagePicker());
        loss(Check.picker("xx! yy!", "item 1 aa;"), 0, 0);
        loss(Check.picker("aa!", "item 9 aa;"), 90);
        loss(Check.picker("aa! aa!", "item 9 aa;"), 0, 0);
        loss(Check.picker("aa! aa bb cc!", "item 9 aa; item 1 cc;"), 27, 37);
        loss(three(20), 0, 20, 20);
        loss(three(23), 10, 0, 0);
        loss(three(33), 40, 30, 30);
        PassagePicker seven = Check.picker(SEVEN, SEVEN_ITEMS);
        loss(seven, 0, 0, 0, 0, 10, 20, 30);
        seven.tell(1, 1);
        loss(seven, 0, 0, 0, 0, 0, 0, 10);
        PassagePicker last = Check.picker("x! ".repeat(13) + "a!", "item 1 a;");
        Check.equal("loss of the fourteenth", last.loss(13), 10);
        Check.equal("loss of the thirteenth", last.loss(12), 0);
    }

    private static void variety(String page, int limit, int due) {
        PassagePicker picker = Check.picker(page, "");
        picker.tell(2, limit);
        Check.equal("VARIETY of " + page + " by " + limit, picker.count(13), due);
        picker.tell(0, 20);
        picker.tell(1, 1);
        Check.equal("BUDGET, MOST aside", picker.count(13), due);
    }

    private static void variety() {
        Check.sentence("VARIETY: the most SENTENCES of which no two have more IN COMMON than LIMIT (BUDGET, MOST aside), "
                + "of several sets the least bits.");
        variety("", 60, 0);
        variety("aa!", 0, 1);
        variety("aa! aa!", 99, 1);
        variety("aa! aa!", 100, 3);
        variety("aa! aa bb!", 49, 1);
        variety("aa! aa bb!", 50, 3);
        variety("aa bb! aa! bb!", 49, 6);
        variety("aa! aa bb! bb!", 49, 5);
        variety("aa! bb! aa bb!", 49, 3);
        variety("aa! aa! bb! bb!", 60, 5);
        variety("aa bb! aa cc! bb dd! cc dd!", 0, 6);
        variety("aa bb! aa cc! bb dd! cc dd!", 33, 15);
        PassagePicker again = Check.picker("aa! aa! bb!", "");
        again.tell(2, 100);
        Check.equal("VARIETY by LIMIT 100", again.count(13), 7);
        again.tell(2, 99);
        Check.equal("then by LIMIT 99", again.count(13), 5);
        variety("11! 22! ? .", 0, 15);
        variety(SEVEN, 0, 127);
        variety("x! ".repeat(14), 60, 1);
        variety("x! ".repeat(13) + "y!", 60, (1 << 13) + 1);
        variety("a! b! c! d! e! f! g! h! i! j! k! l! m! n! o!", 0, 16383);
    }

    private static void merit() {
        Check.sentence("MERIT: WORTH of GREEDY by that of BEST, in hundredths, rounded down (100, if that is 0).");
        Check.equal("MERIT of nothing", new PassagePicker().count(14), 100);
        Check.equal("MERIT where nothing is sought", Check.picker("aa!", "").count(14), 100);
        Check.equal("MERIT where nothing is found", Check.picker("aa!", "item 1 bb;").count(14), 100);
        Check.equal("40 by 60", three(20).count(14), 66);
        Check.equal("70 by 70", three(23).count(14), 100);
        PassagePicker half = Check.picker("aa 12345! bb 12! cc 12!", "item 3 aa; item 3 bb; item 3 cc;");
        half.tell(0, 22);
        Check.equal("all", half.count(14), 100);
        PassagePicker most = Check.picker("aa 1234! bb 12! cc 12!", "item 9 aa; item 7 bb; item 7 cc;");
        most.tell(0, 20);
        Check.equal("90 by 140", most.count(14), 64);
    }
}
