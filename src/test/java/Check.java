import java.nio.charset.StandardCharsets;

/** What all tests share: feeding texts, asking, and counting the answers that are not due. */
final class Check {
    interface Call {
        int answer();
    }

    private static int asked = 0;
    private static int wrong = 0;

    private Check() {
    }

    static void equal(String what, long got, long due) {
        asked++;
        if (got != due) {
            wrong++;
            System.out.println(what + " answered " + got + ", due is " + due);
        }
    }

    static void equal(String what, String got, String due) {
        asked++;
        if (!got.equals(due)) {
            wrong++;
            System.out.println(what + " answered [" + got + "], due is [" + due + "]");
        }
    }

    static void yes(String what, boolean got) {
        equal(what, got ? 1 : 0, 1);
    }

    static void no(String what, boolean got) {
        equal(what, got ? 1 : 0, 0);
    }

    /** Due is exactly this exception, not one of a class below it. */
    static void throwing(String what, Class<? extends RuntimeException> due, Call call) {
        String got;
        try {
            got = "" + call.answer();
        } catch (RuntimeException thrown) {
            got = thrown.getClass().getName();
        }
        equal(what, got, due.getName());
    }

    static void finish() {
        System.out.println(asked + " answers, " + wrong + " not as due");
        if (wrong != 0) {
            System.exit(1);
        }
    }

    /** Lays a text on the tape, a byte for each character. */
    static void feed(PassagePicker picker, String text) {
        byte[] bytes = text.getBytes(StandardCharsets.ISO_8859_1);
        int[] five = new int[5];
        for (int i = 0; i < bytes.length; i += 20) {
            for (int k = 0; k < 5; k++) {
                five[k] = four(bytes, i + 4 * k);
            }
            picker.feed(five[0], five[1], five[2], five[3], five[4]);
        }
        picker.end(bytes.length);
    }

    private static int four(byte[] bytes, int from) {
        int number = 0;
        for (int i = from; i < from + 4; i++) {
            number = number << 8 | (i < bytes.length ? bytes[i] & 255 : 0);
        }
        return number;
    }

    static int page(PassagePicker picker, String text) {
        feed(picker, text);
        return picker.page();
    }

    static int query(PassagePicker picker, String text) {
        feed(picker, text);
        return picker.query();
    }

    static PassagePicker picker(String page, String query) {
        PassagePicker picker = new PassagePicker();
        page(picker, page);
        query(picker, query);
        return picker;
    }

    /** What was written last. */
    static String written(PassagePicker picker) {
        StringBuilder text = new StringBuilder();
        for (int k = 0; picker.octet(k) != PassagePicker.NONE; k++) {
            text.append((char) picker.octet(k));
        }
        return text.toString();
    }

    /** The bytes of a sentence. */
    static String sentence(PassagePicker picker, String page, int sentence) {
        int begin = picker.sentence(sentence, 0);
        return page.substring(begin, begin + picker.sentence(sentence, 1));
    }

    /** All sentences of a page, with a bar between them. */
    static String sentences(String page) {
        PassagePicker picker = new PassagePicker();
        int count = page(picker, page);
        StringBuilder all = new StringBuilder();
        for (int s = 0; s < count; s++) {
            all.append(s == 0 ? "" : "|").append(sentence(picker, page, s));
        }
        return all.toString();
    }
}
