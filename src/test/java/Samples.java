/** The page and the query that many tests share. */
final class Samples {
    /**
     * Words: 0 The 1 red 2 fox 3 ran | 4 A 5 fox 6 saw 7 the 8 dog | 9 Dogs 10 run | 11 J 12 is 13 red 14 old.
     * Sentences: from 0 with 16 signs, from 17 with 18, from 36 with 9, from 47 with 18.
     */
    static final String PAGE = "The red fox ran. A fox saw the dog! Dogs run.\n\nJ. is <red> & old.";

    /** Worth of the sentences: 80, 70, 20, 10; of all 131. */
    static final String QUERY = "item 5 fox; item 3 soft red fox; item 2 dog*; item 1 soft old;";

    private Samples() {
    }

    /** A sentence of words of two letters, all unlike, from one number to another one, and a blank. */
    static String words(int from, int to) {
        StringBuilder text = new StringBuilder();
        for (int k = from; k < to; k++) {
            text.append((char) ('a' + k / 10)).append((char) ('a' + k % 10)).append(k == to - 1 ? "! " : " ");
        }
        return text.toString();
    }

    static PassagePicker picker() {
        return Check.picker(PAGE, QUERY);
    }
}
