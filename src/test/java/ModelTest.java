import java.util.Random;

/** Long runs of calls, made up from fixed seeds: every answer must be the model's. */
public final class ModelTest {
    private static final int RUNS = 400;
    private static final int CALLS = 150;

    private static final String[] VOCABULARY = {"fox", "Fox", "FOX", "foxes", "dog", "Dogs", "red", "the", "The",
        "a", "I", "old", "ox", "caf\u00c3\u00a9", "\u00c3\u00a9", "\u00c3\u00a9t\u00c3\u00a9", "b", "saw", "run"};
    private static final String[] BETWEEN = {" ", " ", " ", " ", " ", " ", " ", "  ", ", ", ". ", ". ", "! ", "? ",
        ".) ", ".\" ", "... ", "\n", "\n\n", " \n\t \n", "\t", " & ", " <", "> ", "\"", "'", ".", "\u00c3", "\u00a9", "-",
        "?!", " . ", ") ", "1"};
    private static final String[] SOUGHT = {"fox", "fox*", "fo*", "dog", "dog*", "red", "the", "a", "i", "old", "ox",
        "caf*", "b", "saw", "run", "f*", "abcdefghijkl", "soft", "item"};
    private static final String CLOSE = ".!?)\" \n\t;a";

    private final Random random;
    private final PassagePicker picker = new PassagePicker();
    private final Model model = new Model();
    private final StringBuilder log = new StringBuilder();

    private ModelTest(long seed) {
        random = new Random(seed);
    }

    public static void main(String[] args) {
        int runs = args.length > 0 ? Integer.parseInt(args[0]) : RUNS;
        int from = args.length > 1 ? Integer.parseInt(args[1]) : 0;
        for (int run = from; run < from + runs; run++) {
            new ModelTest(run).run(run);
        }
        Check.finish();
    }

    private void run(int seed) {
        int longest = seed % 4 == 0 ? 600 : 60 + random.nextInt(240);
        tellPage(longest);
        tellQuery();
        for (int call = 0; call < CALLS; call++) {
            int kind = random.nextInt(60);
            if (kind == 0) {
                tellPage(longest);
            } else if (kind == 1) {
                tellQuery();
            } else if (kind < 6) {
                compare("tell", random.nextInt(5) - 1, number(710), 0);
            } else {
                ask();
            }
        }
    }

    private String pick(String[] from) {
        return from[random.nextInt(from.length)];
    }

    private int number(int bound) {
        switch (random.nextInt(4)) {
            case 0:
                return random.nextInt(12) - 2;
            case 1:
                return random.nextInt(110);
            default:
                return random.nextInt(bound);
        }
    }

    // ---- texts

    private void tellPage(int longest) {
        StringBuilder text = new StringBuilder();
        int size = random.nextInt(longest + 1);
        int kind = random.nextInt(10);
        while (text.length() < size) {
            if (kind == 0) {
                text.append(CLOSE.charAt(random.nextInt(CLOSE.length())));
            } else if (kind == 1) {
                text.append((char) random.nextInt(256));
            } else if (kind == 2) {
                text.append(random.nextInt(3) == 0 ? "a" : "b").append(random.nextInt(12) == 0 ? "!\n" : " ");
            } else {
                text.append(pick(VOCABULARY)).append(pick(BETWEEN));
            }
        }
        text.setLength(size);
        lay(text.toString());
        same("page", picker.page(), model.page());
    }

    private void tellQuery() {
        StringBuilder text = new StringBuilder();
        int items = random.nextInt(20) == 0 ? 9 : random.nextInt(9);
        for (int i = 0; i < items; i++) {
            text.append("item").append(gap()).append(1 + random.nextInt(9)).append(gap());
            text.append(random.nextInt(3) == 0 ? "soft " : "");
            int terms = random.nextInt(30) == 0 ? 5 : 1 + random.nextInt(1 + random.nextInt(4));
            for (int t = 0; t < terms; t++) {
                text.append(pick(SOUGHT)).append(' ').append(gap());
            }
            text.append(";").append(gap());
        }
        if (random.nextInt(4) == 0) {
            spoil(text);
        }
        lay(text.toString());
        compare("query", 0, 0, 0);
        compare("fault", 0, 0, 0);
    }

    private String gap() {
        return random.nextInt(3) == 0 ? "" : random.nextInt(6) == 0 ? "\n\t" : " ";
    }

    private void spoil(StringBuilder text) {
        String wrong = "*;0 1ax\n\u00e9A";
        for (int i = 1 + random.nextInt(3); i > 0 && text.length() > 0; i--) {
            int at = random.nextInt(text.length());
            switch (random.nextInt(4)) {
                case 0:
                    text.deleteCharAt(at);
                    break;
                case 1:
                    text.setLength(at);
                    break;
                case 2:
                    text.setCharAt(at, wrong.charAt(random.nextInt(wrong.length())));
                    break;
                default:
                    text.insert(at, wrong.charAt(random.nextInt(wrong.length())));
                    break;
            }
        }
    }

    private void lay(String text) {
        log.append("\n  lay ").append(text.replace("\n", "\\n"));
        String padded = text + "\0".repeat((20 - text.length() % 20) % 20);
        for (int i = 0; i < padded.length(); i += 20) {
            int[] five = new int[5];
            for (int k = 0; k < 20; k++) {
                five[k / 4] = five[k / 4] << 8 | padded.charAt(i + k);
            }
            same("feed", picker.feed(five[0], five[1], five[2], five[3], five[4]),
                    model.feed(padded.substring(i, i + 20)));
        }
        same("end", picker.end(text.length()) ? 1 : 0, model.end(text.length()) ? 1 : 0);
    }

    // ---- calls

    private void ask() {
        String[] names = {"sign", "signOf", "word", "sentence", "item", "fits", "match", "window", "least", "most",
            "widest", "cut", "set", "common", "step", "choice", "take", "choose", "choose", "choose", "drop", "exchange",
            "trade", "rank", "need", "loss", "quote", "write", "write", "count"};
        String name = pick(names);
        int a = number(610);
        int b = random.nextInt(14) - 2;
        int c = random.nextInt(6) - 1;
        if ("sentence choose drop loss common".contains(name)) {
            a = random.nextInt(16) - 1;
        } else if (name.equals("item") || name.equals("fits")) {
            a = random.nextInt(10) - 1;
        } else if (name.equals("window") || name.equals("least")) {
            a = random.nextInt(Math.max(1, 1 << picker.count(4))) + random.nextInt(4) / 3;
            b = name.equals("least") ? c : b;
        } else if (name.equals("set")) {
            a = random.nextInt(1 << picker.count(3)) + random.nextInt(8) / 7;
        } else if (name.equals("cut")) {
            a = random.nextInt(Math.max(1, picker.count(3)));
            b = number(200);
        } else if (name.equals("need")) {
            a = random.nextInt(1 + random.nextInt(1020));
        } else if (name.equals("count")) {
            a = random.nextInt(18) - 2;
        }
        if (name.equals("fits")) {
            c = number(100);
        }
        compare(name, a, b, c);
        if (name.equals("write") || name.equals("quote")) {
            compareWritten();
        }
        if (name.equals("write") && random.nextInt(2) == 0) {
            compare("write", 10 + random.nextInt(40), 0, 0);
            compareWritten();
        }
    }

    private void compareWritten() {
        StringBuilder due = new StringBuilder();
        for (int k = 0; model.octet(k) >= 0; k++) {
            due.append((char) model.octet(k));
        }
        Check.equal("written" + log, Check.written(picker), due.toString());
        same("marks(true)", picker.marks(true), model.marks(true));
        same("marks(false)", picker.marks(false), model.marks(false));
        same("count(12)", picker.count(12), model.count(12));
        same("octet(-1)", picker.octet(-1), -1);
    }

    private void same(String call, int got, int due) {
        log.append("\n  ").append(call).append(" ").append(got);
        if (got != due) {
            Check.equal(call + " behind" + log, got, due);
        } else {
            Check.equal("", got, due);
        }
    }

    private void compare(String name, int a, int b, int c) {
        log.append("\n  ").append(name).append(" ").append(a).append(" ").append(b).append(" ").append(c);
        String got = answer(() -> ofPicker(name, a, b, c));
        String due = answer(() -> ofModel(name, a, b, c));
        Check.equal(got.equals(due) ? "" : name + log, got, due);
        same("CHOSEN", picker.count(9), model.count(9));
    }

    private static String answer(Check.Call call) {
        try {
            return "" + call.answer();
        } catch (RuntimeException thrown) {
            return thrown.getClass().getSimpleName();
        }
    }

    private int ofPicker(String name, int a, int b, int c) {
        switch (name) {
            case "query": return picker.query();
            case "fault": return picker.fault();
            case "tell": return picker.tell(a, b);
            case "sign": return picker.sign(a);
            case "signOf": return picker.signOf(a);
            case "word": return picker.word(a, c);
            case "sentence": return picker.sentence(a, b);
            case "item": return picker.item(a, c);
            case "fits": return picker.fits(a, b, c) ? 1 : 0;
            case "match": return picker.match(a, c);
            case "window": return picker.window(a, b, c);
            case "least": return picker.least(a, b);
            case "most": return picker.most(a);
            case "widest": return picker.widest(a, c);
            case "cut": return picker.cut(a, b, c);
            case "set": return picker.set(a, c);
            case "common": return picker.common(a, b);
            case "step": return picker.step(b);
            case "choice": return picker.choice(c > 1);
            case "take": return picker.take(c > 1);
            case "choose": return picker.choose(a);
            case "drop": return picker.drop(a);
            case "exchange": return picker.exchange(c);
            case "trade": return picker.trade();
            case "rank": return picker.rank(b);
            case "need": return picker.need(a);
            case "loss": return picker.loss(a);
            case "quote": return picker.quote(a);
            case "write": return picker.write(a);
            default: return picker.count(a);
        }
    }

    private int ofModel(String name, int a, int b, int c) {
        switch (name) {
            case "query": return model.query();
            case "fault": return model.fault();
            case "tell": return model.tell(a, b);
            case "sign": return model.sign(a);
            case "signOf": return model.signOf(a);
            case "word": return model.word(a, c);
            case "sentence": return model.sentence(a, b);
            case "item": return model.item(a, c);
            case "fits": return model.fits(a, b, c) ? 1 : 0;
            case "match": return model.match(a, c);
            case "window": return model.window(a, b, c);
            case "least": return model.least(a, b);
            case "most": return model.most(a);
            case "widest": return model.widest(a, c);
            case "cut": return model.cut(a, b, c);
            case "set": return model.set(a, c);
            case "common": return model.common(a, b);
            case "step": return model.step(b);
            case "choice": return model.choice(c > 1);
            case "take": return model.take(c > 1);
            case "choose": return model.choose(a);
            case "drop": return model.drop(a);
            case "exchange": return model.exchange(c);
            case "trade": return model.trade();
            case "rank": return model.rank(b);
            case "need": return model.need(a);
            case "loss": return model.loss(a);
            case "quote": return model.quote(a);
            case "write": return model.write(a);
            default: return model.count(a);
        }
    }
}
