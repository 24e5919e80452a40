import java.util.NoSuchElementException;

/** Promises 15 to 19: window, least, most, widest, cut. */
public final class WindowTest {
    public static void main(String[] args) {
        minimal();
        several();
        hundred();
        least();
        wrongSets();
        most();
        widest();
        widestOfLikes();
        cut();
        cutWithoutMatches();
        Check.finish();
    }

    private static void minimal(PassagePicker picker, int set, int[][] due) {
        Check.equal("windows of " + set, picker.window(set, -1, 0), due.length);
        for (int k = 0; k < due.length; k++) {
            for (int what = 0; what < 3; what++) {
                Check.equal("window(" + set + ", " + k + ", " + what + ")", picker.window(set, k, what), due[k][what]);
            }
        }
        Check.equal("window behind all", picker.window(set, due.length, 0), -1);
        Check.equal("window -2", picker.window(set, -2, 2), -1);
    }

    private static void minimal() {
        PassagePicker picker = Samples.picker();
        minimal(picker, 1, new int[][] {{2, 2, 3}, {5, 5, 3}});
        minimal(picker, 2, new int[][] {{1, 2, 7}});
        minimal(picker, 3, new int[][] {{1, 2, 7}});
        minimal(picker, 4, new int[][] {{8, 8, 3}, {9, 9, 4}});
        minimal(picker, 5, new int[][] {{5, 8, 15}});
        minimal(picker, 10, new int[][] {{1, 14, 60}});
        minimal(picker, 15, new int[][] {{1, 14, 60}});
        PassagePicker none = Check.picker("fox", "item 1 fox; item 1 dog;");
        minimal(none, 2, new int[][] {});
        minimal(none, 3, new int[][] {});
    }

    private static void several() {
        PassagePicker picker = Check.picker("a b a b! \u00c3\u00a9 a b.", "item 1 a; item 1 b; item 1 a b; item 1 b a;");
        minimal(picker, 3, new int[][] {{0, 1, 3}, {1, 2, 3}, {2, 3, 3}, {3, 5, 6}, {5, 6, 3}});
        minimal(picker, 4, new int[][] {{0, 1, 3}, {2, 3, 3}, {5, 6, 3}});
        minimal(picker, 12, new int[][] {{0, 2, 5}, {1, 3, 5}});
        minimal(picker, 15, new int[][] {{0, 2, 5}, {1, 3, 5}});
    }

    private static void hundred() {
        PassagePicker picker = Check.picker("b " + "a ".repeat(97) + "b b", "item 1 a; item 1 b;");
        Check.equal("the first at once", picker.window(3, 0, 1), 1);
        Check.equal("the second at once", picker.window(3, 1, 0), 97);
        minimal(picker, 2, new int[][] {{0, 0, 1}, {98, 98, 1}, {99, 99, 1}});
        least(picker, 3, 0, 1, 3);
        widest(picker, 600, 0, 99, 199, 28);
        Check.equal("most", picker.most(600), 2);
        Check.page(picker, "a b a");
        minimal(picker, 3, new int[][] {{0, 1, 3}, {1, 2, 3}});
        minimal(picker, 1, new int[][] {{0, 0, 1}, {2, 2, 1}});
    }

    private static void least(PassagePicker picker, int set, int first, int last, int length) {
        Check.equal("least(" + set + ", 0)", picker.least(set, 0), first);
        Check.equal("least(" + set + ", 1)", picker.least(set, 1), last);
        Check.equal("least(" + set + ", 2)", picker.least(set, 2), length);
    }

    private static void least() {
        PassagePicker picker = Check.picker("a x b, b a. \u00c3\u00a9 a b", "item 1 a; item 1 b; item 1 c;");
        least(picker, 3, 3, 4, 3);
        least(picker, 1, 0, 0, 1);
        least(picker, 4, -1, -1, -1);
        least(picker, 7, -1, -1, -1);
        least(Samples.picker(), 4, 8, 8, 3);
        least(Check.picker("a bb b a\u00c3\u00a9 a", "item 1 a*; item 1 b*;"), 3, 0, 1, 4);
        least(Check.picker("a bb b a\u00c3\u00a9", "item 1 a*; item 1 b*;"), 3, 0, 1, 4);
    }

    private static void wrongSets() {
        PassagePicker picker = Samples.picker();
        int[] wrong = {0, 16, 17, -1, Integer.MIN_VALUE};
        for (int set : wrong) {
            Check.throwing("window of " + set, IllegalArgumentException.class, () -> picker.window(set, -1, 0));
            Check.throwing("least of " + set, IllegalArgumentException.class, () -> picker.least(set, 2));
            Check.throwing("window, what first", NoSuchElementException.class, () -> picker.window(set, 0, 3));
            Check.throwing("least, what first", NoSuchElementException.class, () -> picker.least(set, -1));
        }
        Check.throwing("window, what -1", NoSuchElementException.class, () -> picker.window(1, 0, -1));
        Check.throwing("window of all, what 3", NoSuchElementException.class, () -> picker.window(1, -1, 3));
        Check.throwing("least, what 3", NoSuchElementException.class, () -> picker.least(1, 3));
    }

    private static void most() {
        PassagePicker picker = Samples.picker();
        int[][] due = {{1, 0}, {2, 0}, {3, 1}, {6, 1}, {7, 2}, {29, 2}, {30, 3}, {59, 3}, {60, 4}, {600, 4}};
        for (int[] row : due) {
            Check.equal("most(" + row[0] + ")", picker.most(row[0]), row[1]);
        }
        for (int n : new int[] {0, 601, -1, Integer.MIN_VALUE}) {
            Check.throwing("most(" + n + ")", IllegalArgumentException.class, () -> picker.most(n));
        }
        Check.equal("items of like terms", Check.picker("a", "item 1 a; item 1 a;").most(1), 2);
    }

    private static void widest(PassagePicker picker, int n, int first, int last, int length, int worth) {
        int[] due = {first, last, length, worth};
        for (int what = 0; what < 4; what++) {
            Check.equal("widest(" + n + ", " + what + ")", picker.widest(n, what), due[what]);
        }
    }

    private static void widest() {
        PassagePicker picker = Samples.picker();
        widest(picker, 1, -1, -1, -1, 0);
        widest(picker, 2, -1, -1, -1, 0);
        widest(picker, 3, 2, 2, 3, 50);
        widest(picker, 7, 1, 2, 7, 80);
        widest(picker, 17, 1, 2, 7, 80);
        widest(picker, 18, 1, 5, 18, 95);
        widest(picker, 30, 1, 8, 30, 115);
        widest(picker, 36, 1, 9, 36, 121);
        widest(picker, 600, 1, 14, 60, 131);
        Check.throwing("widest, n 0", IllegalArgumentException.class, () -> picker.widest(0, 0));
        Check.throwing("widest, n 601", IllegalArgumentException.class, () -> picker.widest(601, 3));
        Check.throwing("widest, what 4", NoSuchElementException.class, () -> picker.widest(0, 4));
        Check.throwing("widest, what -1", NoSuchElementException.class, () -> picker.widest(601, -1));
    }

    private static void widestOfLikes() {
        PassagePicker picker = Check.picker("b a a xx a a. a, a", "item 1 a;");
        widest(picker, 1, 1, 1, 1, 10);
        widest(picker, 3, 1, 2, 3, 13);
        widest(picker, 4, 1, 2, 3, 13);
        widest(picker, 8, 4, 6, 6, 14);
        widest(picker, 600, 4, 6, 6, 14);
        PassagePicker shorter = Check.picker("fox\u00c3\u00a9s a foxes ab fox", "item 9 fo*;");
        widest(shorter, 4, 4, 4, 3, 90);
        widest(shorter, 5, 4, 4, 3, 90);
        widest(shorter, 12, 2, 4, 12, 117);
        widest(shorter, 600, 0, 4, 20, 126);
    }

    private static void cut(PassagePicker picker, int sentence, int n, int first, int last, int whole) {
        String call = "cut(" + sentence + ", " + n + ", ";
        Check.equal(call + "0)", picker.cut(sentence, n, 0), first);
        Check.equal(call + "1)", picker.cut(sentence, n, 1), last);
        Check.equal(call + "2)", picker.cut(sentence, n, 2), whole);
    }

    private static void cut() {
        PassagePicker picker = Samples.picker();
        cut(picker, 0, 600, 0, 3, 1);
        cut(picker, 0, 16, 0, 3, 1);
        cut(picker, 0, 15, 1, 2, 0);
        cut(picker, 0, 10, 1, 2, 0);
        cut(picker, 1, 18, 4, 8, 1);
        cut(picker, 1, 17, 5, 8, 0);
        cut(picker, 1, 15, 5, 8, 0);
        cut(picker, 1, 14, 5, 5, 0);
        cut(picker, 2, 10, 9, 10, 1);
        cut(picker, 3, 17, 14, 14, 0);
        Check.throwing("cut, no sentence", IndexOutOfBoundsException.class, () -> picker.cut(4, 9, 3));
        Check.throwing("cut, sentence -1", IndexOutOfBoundsException.class, () -> picker.cut(-1, 10, 0));
        Check.throwing("cut, what 3", NoSuchElementException.class, () -> picker.cut(0, 9, 3));
        Check.throwing("cut, what -1", NoSuchElementException.class, () -> picker.cut(0, 601, -1));
        Check.throwing("cut, n 9", IllegalArgumentException.class, () -> picker.cut(0, 9, 0));
        Check.throwing("cut, n 601", IllegalArgumentException.class, () -> picker.cut(0, 601, 2));
    }

    private static void cutWithoutMatches() {
        PassagePicker picker = Check.picker(Samples.PAGE, "");
        cut(picker, 3, 10, 11, 13, 0);
        cut(picker, 0, 10, 0, 1, 0);
        cut(picker, 0, 11, 0, 2, 0);
        PassagePicker odd = Check.picker("abcdefghijk lm. ........... ... (((((((((((ab.", "item 1 lm; item 1 abc;");
        cut(odd, 0, 10, 1, 1, 0);
        cut(odd, 1, 10, -1, -1, 0);
        cut(odd, 1, 11, -1, -1, 1);
        cut(odd, 2, 10, -1, -1, 1);
        cut(odd, 3, 10, 2, 2, 0);
        Check.query(odd, "");
        cut(odd, 0, 10, -1, -1, 0);
        cut(odd, 0, 11, 0, 0, 0);
        Check.query(odd, "item 9 abcdefghijk lm;");
        cut(odd, 0, 13, 0, 0, 0);
        cut(odd, 0, 14, 0, 1, 0);
        cut(odd, 0, 15, 0, 1, 1);
    }
}
