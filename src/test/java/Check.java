import java.nio.charset.StandardCharsets;
import java.util.NoSuchElementException;
import java.util.function.IntUnaryOperator;
import java.util.function.Supplier;

/** What all tests share: feeding texts, asking, and counting the answers that are not due. */
final class Check {
    interface Call {
        int answer();
    }

    private static int asked = 0;
    private static int wrong = 0;
    private static String sentence = "";

    private Check() {
    }

    /** Tells which words of the document the answers from here on hold to; SentencesTest looks them up there. */
    static void sentence(String words) {
        sentence = words;
    }

    static void equal(String what, long got, long due) {
        asked++;
        if (got != due) {
            tellWrong(what + " answered " + got + ", due is " + due);
        }
    }

    static void equal(String what, String got, String due) {
        asked++;
        if (!got.equals(due)) {
            tellWrong(what + " answered [" + got + "], due is [" + due + "]");
        }
    }

    private static void tellWrong(String text) {
        wrong++;
        System.out.println(text + (sentence.isEmpty() ? "" : "\n    by: " + sentence));
    }

    static void yes(String what, boolean got) {
        equal(what, got ? 1 : 0, 1);
    }

    static void no(String what, boolean got) {
        equal(what, got ? 1 : 0, 0);
    }

    /** Due is exactly this exception, not one of a class below it. */
    static void throwing(String what, Class<? extends RuntimeException> due, Call call) {
        equal(what, answer(call), due.getName());
    }

    /** The answer, or the name of what is thrown, as a text. */
    static String answer(Call call) {
        try {
            return "" + call.answer();
        } catch (RuntimeException thrown) {
            return thrown.getClass().getName();
        }
    }

    /** Only the numbers from low to high are taken; the next ones and the farthest ones are refused. */
    static void numbers(String what, int low, int high, IntUnaryOperator call) {
        for (int n : new int[] {low - 1, high + 1, Integer.MIN_VALUE, Integer.MAX_VALUE}) {
            throwing(what + " of " + n, IllegalArgumentException.class, () -> call.applyAsInt(n));
        }
        taken(what, low, call);
        taken(what, high, call);
    }

    /** Only the questions from 0 to last are answered. */
    static void whats(String what, int last, IntUnaryOperator call) {
        for (int n : new int[] {-1, last + 1, Integer.MIN_VALUE, Integer.MAX_VALUE}) {
            throwing(what + ", what " + n, NoSuchElementException.class, () -> call.applyAsInt(n));
        }
        for (int n = 0; n <= last; n++) {
            taken(what + ", what", n, call);
        }
    }

    /** Only things from 0 on, as many as there are, are found. */
    static void indices(String what, int size, IntUnaryOperator call) {
        for (int n : new int[] {-1, size, size + 1, Integer.MIN_VALUE, Integer.MAX_VALUE}) {
            throwing(what + " " + n, IndexOutOfBoundsException.class, () -> call.applyAsInt(n));
        }
        if (size > 0) {
            taken(what, 0, call);
            taken(what, size - 1, call);
        }
    }

    /** NONE is answered for all but the numbers from 0 on, as many as there are. */
    static void nones(String what, int size, IntUnaryOperator call) {
        for (int n : new int[] {-1, -2, size, size + 1, Integer.MIN_VALUE, Integer.MAX_VALUE}) {
            equal(what + "(" + n + ")", call.applyAsInt(n), PassagePicker.NONE);
        }
        if (size > 0) {
            no(what + "(0) is none", call.applyAsInt(0) == PassagePicker.NONE);
            no(what + "(" + (size - 1) + ") is none", call.applyAsInt(size - 1) == PassagePicker.NONE);
        }
    }

    private static void taken(String what, int n, IntUnaryOperator call) {
        equal(what + " of " + n, answer(() -> call.applyAsInt(n)).replaceAll("-?\\d+", "a number"), "a number");
    }

    static void finish() {
        System.out.println(asked + " answers, " + wrong + " not as due");
        if (wrong != 0) {
            System.exit(1);
        }
    }

    /** Lays a text on the tape, a byte for each character. */
    static void feed(PassagePicker picker, String text) {
        byte[] bytes = text.getBytes(StandardCharsets.ISO_8859_1);
        int[] five = new int[5];
        for (int i = 0; i < bytes.length; i += 20) {
            for (int k = 0; k < 5; k++) {
                five[k] = four(bytes, i + 4 * k);
            }
            picker.feed(five[0], five[1], five[2], five[3], five[4]);
        }
        picker.end(bytes.length);
    }

    private static int four(byte[] bytes, int from) {
        int number = 0;
        for (int i = from; i < from + 4; i++) {
            number = number << 8 | (i < bytes.length ? bytes[i] & 255 : 0);
        }
        return number;
    }

    static int page(PassagePicker picker, String text) {
        feed(picker, text);
        return picker.page();
    }

    static int query(PassagePicker picker, String text) {
        feed(picker, text);
        return picker.query();
    }

    static PassagePicker picker(String page, String query) {
        PassagePicker picker = new PassagePicker();
        page(picker, page);
        query(picker, query);
        return picker;
    }

    /** What was written last. */
    static String written(PassagePicker picker) {
        StringBuilder text = new StringBuilder();
        for (int octet = picker.octet(0); octet != PassagePicker.NONE; octet = picker.octet(text.length())) {
            text.append((char) octet);
        }
        return text.toString();
    }

    /** What was written last, read from several objects made alike, so that none is used for more than 512 calls. */
    static String longWritten(Supplier<PassagePicker> made) {
        StringBuilder text = new StringBuilder();
        int size = made.get().count(12);
        while (text.length() < size) {
            PassagePicker picker = made.get();
            for (int times = 0; times < 400 && text.length() < size; times++) {
                text.append((char) picker.octet(text.length()));
            }
        }
        return text.toString();
    }

    /** The bytes of a sentence. */
    static String sentence(PassagePicker picker, String page, int sentence) {
        int begin = picker.sentence(sentence, 0);
        return page.substring(begin, begin + picker.sentence(sentence, 1));
    }

    /** All sentences of a page, with a bar between them. */
    static String sentences(String page) {
        PassagePicker picker = new PassagePicker();
        int count = page(picker, page);
        StringBuilder all = new StringBuilder();
        for (int s = 0; s < count; s++) {
            all.append(s == 0 ? "" : "|").append(sentence(picker, page, s));
        }
        return all.toString();
    }
}
