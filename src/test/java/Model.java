import java.util.ArrayList;
import java.util.Comparator;
import java.util.List;
import java.util.NoSuchElementException;
import java.util.regex.Matcher;
import java.util.regex.Pattern;

/**
 * The document once more, as plainly and slowly as can be: every window and every set is looked
 * at, every mark is a stretch of its own. ModelTest holds the class against it.
 */
final class Model {
    private static final String PAIR = "[\\u00c0-\\u00ff][\\u0080-\\u00bf]";
    private static final Pattern SIGN = Pattern.compile("(?s)" + PAIR + "|.");
    private static final Pattern LETTER = Pattern.compile(PAIR + "|[a-zA-Z]");
    private static final Pattern WORD = Pattern.compile("(?:" + PAIR + "|[a-zA-Z])+");
    private static final Pattern EMPTY_LINE = Pattern.compile("\\n[\\t ]*\\n");

    record Stretch(int begin, int end, String text) {
    }

    record Item(int weight, boolean soft, List<String> terms) {
    }

    record Match(int item, int first, int last) {
    }

    record Window(int first, int last, int length, int worth) {
    }

    /** Of a sentence that is all: its words, or NONE. */
    record Cut(int first, int last, boolean whole) {
    }

    private String tape = "";
    private String page = "";
    private List<Stretch> signs = new ArrayList<>();
    private List<Stretch> words = new ArrayList<>();
    private List<Stretch> sentences = new ArrayList<>();
    private List<Item> items = new ArrayList<>();
    private List<Match> matches = new ArrayList<>();
    private int fault = -1;
    private final int[] settings = {200, 3, 60};
    private int chosen = 0;
    private String written = "";

    // Kept because they are asked for so often; all follow from the page and the query alone.
    private int[] signNumbers = {0};
    private int[] wordSentences = {};
    private int[] sentenceSigns = {};
    private int[][] commons = {};
    private int[] setWorths = {0};

    // ---- the tape

    int feed(String twenty) {
        if (tape.length() + 20 > 600) {
            return -1;
        }
        tape += twenty;
        return tape.length();
    }

    boolean end(int n) {
        if (n < 0 || tape.length() < n) {
            return false;
        }
        tape = tape.substring(0, n);
        return true;
    }

    int page() {
        page = tape;
        tape = "";
        signs = all(SIGN, page);
        words = all(WORD, page);
        words = words.subList(0, Math.min(100, words.size()));
        numberSigns();
        findSentences();
        measureSentences();
        findMatches();
        chosen = 0;
        return sentences.size();
    }

    int query() {
        String text = tape;
        tape = "";
        List<Item> read = new ArrayList<>();
        fault = faultOf(text, read);
        if (fault >= 0) {
            throw new IllegalArgumentException();
        }
        items = read;
        findMatches();
        chosen = 0;
        return items.size();
    }

    int fault() {
        return fault;
    }

    int tell(int what, int n) {
        what(what, 2);
        int[] low = {20, 1, 0};
        int[] high = {700, 6, 100};
        number(n, low[what], high[what]);
        int was = settings[what];
        settings[what] = n;
        chosen = 0;
        return was;
    }

    // ---- the page

    private static List<Stretch> all(Pattern pattern, String text) {
        List<Stretch> found = new ArrayList<>();
        Matcher matcher = pattern.matcher(text);
        while (matcher.find()) {
            found.add(new Stretch(matcher.start(), matcher.end(), matcher.group()));
        }
        return found;
    }

    private static boolean blank(char c) {
        return c == 9 || c == 10 || c == 32;
    }

    private void findSentences() {
        sentences = new ArrayList<>();
        int from = 0;
        while (sentences.size() < 14) {
            while (from < page.length() && blank(page.charAt(from))) {
                from++;
            }
            if (from == page.length()) {
                return;
            }
            int end = from + 1;
            while (!endsAt(from, end)) {
                end++;
            }
            int behind = end;
            while (blank(page.charAt(behind - 1))) {
                behind--;
            }
            sentences.add(new Stretch(from, behind, page.substring(from, behind)));
            from = end;
        }
    }

    private boolean endsAt(int from, int end) {
        if (end == page.length()) {
            return true;
        }
        if (EMPTY_LINE.matcher(page).region(end, page.length()).lookingAt()) {
            return true;
        }
        if (!blank(page.charAt(end))) {
            return false;
        }
        for (int i = from; i < end; i++) {
            if (page.substring(i, end).matches("[.!?][.!?)\"]*") && !initial(i, end)) {
                return true;
            }
        }
        return false;
    }

    private boolean initial(int i, int end) {
        if (!page.substring(i, end).equals(".")) {
            return false;
        }
        int sign = signOf(i);
        return letter(sign - 1) && !letter(sign - 2);
    }

    private boolean letter(int sign) {
        return sign >= 0 && LETTER.matcher(signs.get(sign).text()).matches();
    }

    int sign(int k) {
        return k < 0 || k >= signs.size() ? -1 : signs.get(k).begin();
    }

    int signOf(int i) {
        for (int k = 0; k < signs.size(); k++) {
            if (signs.get(k).begin() <= i && i < signs.get(k).end()) {
                return k;
            }
        }
        return -1;
    }

    private void numberSigns() {
        signNumbers = new int[page.length() + 1];
        for (int i = 0; i < page.length(); i++) {
            signNumbers[i] = signOf(i);
        }
        signNumbers[page.length()] = signs.size();
    }

    private int signsIn(int begin, int end) {
        return signNumbers[end] - signNumbers[begin];
    }

    private void measureSentences() {
        wordSentences = new int[words.size()];
        for (int w = 0; w < words.size(); w++) {
            wordSentences[w] = sentenceAround(w);
        }
        sentenceSigns = new int[sentences.size()];
        commons = new int[sentences.size()][sentences.size()];
        for (int s = 0; s < sentences.size(); s++) {
            sentenceSigns[s] = all(SIGN, sentences.get(s).text()).size();
            for (int other = 0; other < sentences.size(); other++) {
                commons[s][other] = commonOf(s, other);
            }
        }
    }

    private int sentenceOf(int word) {
        return wordSentences[word];
    }

    private String lower(int word) {
        StringBuilder text = new StringBuilder();
        for (char c : words.get(word).text().toCharArray()) {
            text.append(c >= 'A' && c <= 'Z' ? (char) (c + 32) : c);
        }
        return text.toString();
    }

    private int sentenceAround(int word) {
        for (int s = 0; s < sentences.size(); s++) {
            if (sentences.get(s).begin() <= words.get(word).begin()
                    && words.get(word).end() <= sentences.get(s).end()) {
                return s;
            }
        }
        return -1;
    }

    private List<Integer> wordsOf(int sentence) {
        List<Integer> of = new ArrayList<>();
        for (int w = 0; w < words.size(); w++) {
            if (sentenceOf(w) == sentence) {
                of.add(w);
            }
        }
        return of;
    }

    private List<String> unlike(int sentence) {
        return wordsOf(sentence).stream().map(this::lower).distinct().toList();
    }

    int word(int word, int what) {
        index(word, words.size());
        what(what, 5);
        Stretch at = words.get(word);
        switch (what) {
            case 0:
                return at.begin();
            case 1:
                return at.text().length();
            case 2:
                return signsIn(at.begin(), at.end());
            case 3:
                return sentenceOf(word);
            case 4:
                return bits(matches.stream().filter(m -> m.first() <= word && word <= m.last())
                        .map(Match::item).toList());
            default:
                int first = 0;
                while (!lower(first).equals(lower(word))) {
                    first++;
                }
                return first;
        }
    }

    int sentence(int sentence, int what) {
        index(sentence, sentences.size());
        what(what, 10);
        Stretch at = sentences.get(sentence);
        List<Integer> of = wordsOf(sentence);
        switch (what) {
            case 0:
                return at.begin();
            case 1:
                return at.text().length();
            case 2:
                return sentenceSigns[sentence];
            case 3:
                return of.isEmpty() ? -1 : of.get(0);
            case 4:
                return of.size();
            case 5:
                return unlike(sentence).size();
            case 6:
                return itemsIn(1 << sentence);
            case 7:
                return worth(1 << sentence);
            case 8:
                return worth(chosen | 1 << sentence) - worth(chosen);
            case 9:
                return (chosen >> sentence & 1) == 0 && may(chosen | 1 << sentence) ? 1 : 0;
            default:
                return echo(sentence);
        }
    }

    private int echo(int sentence) {
        int echo = -1;
        int most = 0;
        for (int other = 0; other < sentences.size(); other++) {
            if (other != sentence && common(sentence, other) > most) {
                most = common(sentence, other);
                echo = other;
            }
        }
        return echo;
    }

    // ---- the query

    /** Things: words, numbers, and every other byte alone. */
    private static int faultOf(String text, List<Item> read) {
        List<Stretch> things = all(Pattern.compile("(?s)[a-z]+|[0-9]+|[^\\t\\n ]"), text);
        things.add(new Stretch(text.length(), text.length(), ""));
        int at = 0;
        while (at < things.size() - 1) {
            if (!things.get(at).text().equals("item") || read.size() == 8) {
                return things.get(at).begin();
            }
            at++;
            if (!things.get(at).text().matches("[1-9]")) {
                return things.get(at).begin();
            }
            int weight = Integer.parseInt(things.get(at).text());
            at++;
            boolean soft = things.get(at).text().equals("soft");
            at += soft ? 1 : 0;
            List<String> terms = new ArrayList<>();
            while (terms.isEmpty() || !things.get(at).text().equals(";")) {
                if (!things.get(at).text().matches("[a-z]{1,12}") || terms.size() == 4) {
                    return things.get(at).begin();
                }
                String term = things.get(at).text();
                int behind = things.get(at).end();
                at++;
                if (things.get(at).text().equals("*") && things.get(at).begin() == behind) {
                    term += "*";
                    at++;
                }
                terms.add(term);
            }
            at++;
            read.add(new Item(weight, soft, terms));
        }
        return -1;
    }

    int item(int item, int what) {
        index(item, items.size());
        what(what, 4);
        List<Match> of = matches.stream().filter(m -> m.item() == item).toList();
        switch (what) {
            case 0:
                return items.get(item).weight();
            case 1:
                return items.get(item).soft() ? 0 : 1;
            case 2:
                return items.get(item).terms().size();
            case 3:
                return of.size();
            default:
                return bits(of.stream().map(m -> sentenceOf(m.first())).toList());
        }
    }

    boolean fits(int item, int term, int word) {
        index(item, items.size());
        index(word, words.size());
        List<String> terms = items.get(item).terms();
        if (term < 0 || term >= terms.size()) {
            return false;
        }
        String sought = terms.get(term);
        return sought.endsWith("*")
                ? lower(word).startsWith(sought.substring(0, sought.length() - 1))
                : lower(word).equals(sought);
    }

    private void findMatches() {
        matches = new ArrayList<>();
        for (int w = 0; w < words.size(); w++) {
            for (int i = 0; i < items.size(); i++) {
                int last = w + items.get(i).terms().size() - 1;
                boolean all = last < words.size() && sentenceOf(w) >= 0 && sentenceOf(w) == sentenceOf(last);
                for (int t = 0; all && w + t <= last; t++) {
                    all = fits(i, t, w + t);
                }
                if (all) {
                    matches.add(new Match(i, w, last));
                }
            }
        }
        setWorths = new int[1 << sentences.size()];
        for (int set = 0; set < setWorths.length; set++) {
            setWorths[set] = worthOf(matchesIn(set));
        }
    }

    int match(int match, int what) {
        index(match, matches.size());
        what(what, 2);
        Match at = matches.get(match);
        return what == 0 ? at.item() : what == 1 ? at.first() : at.last();
    }

    // ---- windows

    private List<Match> had(int first, int last) {
        List<Match> had = new ArrayList<>();
        for (Match match : matches) {
            if (match.first() >= first && match.last() <= last) {
                had.add(match);
            }
        }
        return had;
    }

    private boolean hasAll(int set, int first, int last) {
        return (bits(had(first, last).stream().map(Match::item).toList()) & set) == set;
    }

    private int worthOf(List<Match> some) {
        int[] counts = new int[items.size()];
        for (Match match : some) {
            counts[match.item()]++;
        }
        int worth = 0;
        for (int i = 0; i < items.size(); i++) {
            int times = counts[i] == 0 ? 0 : counts[i] == 1 ? 10 : counts[i] == 2 ? 13 : 14;
            worth += items.get(i).weight() * times;
        }
        return worth;
    }

    private List<Window> windows(int from, int to, int n) {
        List<Window> all = new ArrayList<>();
        for (int a = Math.max(0, from); a <= to; a++) {
            for (int b = a; b <= to; b++) {
                int length = signsIn(words.get(a).begin(), words.get(b).end());
                if (length <= n) {
                    all.add(new Window(a, b, length, worthOf(had(a, b))));
                }
            }
        }
        return all;
    }

    private List<Window> minimal(int set) {
        return windows(0, words.size() - 1, 600).stream()
                .filter(w -> hasAll(set, w.first(), w.last()))
                .filter(w -> !hasAll(set, w.first() + 1, w.last()) && !hasAll(set, w.first(), w.last() - 1))
                .toList();
    }

    private void someItems(int set) {
        if (set == 0 || set < 0 || set >= 1 << items.size()) {
            throw new IllegalArgumentException();
        }
    }

    private static int of(Window window, int what) {
        return window == null ? -1 : what == 0 ? window.first() : what == 1 ? window.last() : window.length();
    }

    int window(int set, int k, int what) {
        what(what, 2);
        someItems(set);
        List<Window> all = minimal(set);
        if (k == -1) {
            return all.size();
        }
        return k < 0 || k >= all.size() ? -1 : of(all.get(k), what);
    }

    int least(int set, int what) {
        what(what, 2);
        someItems(set);
        return of(minimal(set).stream().min(Comparator.comparingInt(Window::length)).orElse(null), what);
    }

    int most(int n) {
        number(n, 1, 600);
        return windows(0, words.size() - 1, n).stream()
                .mapToInt(w -> (int) had(w.first(), w.last()).stream().map(Match::item).distinct().count())
                .max().orElse(0);
    }

    private Window widest(int from, int to, int n) {
        return windows(from, to, n).stream().filter(w -> w.worth() > 0)
                .min(Comparator.comparingInt((Window w) -> -w.worth()).thenComparingInt(Window::length))
                .orElse(null);
    }

    int widest(int n, int what) {
        what(what, 3);
        number(n, 1, 600);
        Window widest = widest(0, words.size() - 1, n);
        return what == 3 ? (widest == null ? 0 : widest.worth()) : of(widest, what);
    }

    private Cut cut(int sentence, int n) {
        List<Integer> of = wordsOf(sentence);
        int first = of.isEmpty() ? -1 : of.get(0);
        int last = of.isEmpty() ? -1 : of.get(of.size() - 1);
        if (sentence(sentence, 2) <= n) {
            return new Cut(first, last, true);
        }
        Window widest = widest(first, last, n);
        if (widest != null) {
            return new Cut(widest.first(), widest.last(), false);
        }
        return windows(first, last, n).stream().filter(w -> w.first() == first)
                .max(Comparator.comparingInt(Window::last))
                .map(w -> new Cut(w.first(), w.last(), false)).orElse(null);
    }

    int cut(int sentence, int n, int what) {
        index(sentence, sentences.size());
        what(what, 2);
        number(n, 10, 600);
        Cut cut = cut(sentence, n);
        if (what == 2) {
            return cut != null && cut.whole() ? 1 : 0;
        }
        return cut == null ? -1 : what == 0 ? cut.first() : cut.last();
    }

    // ---- sets

    private List<Integer> members(int set) {
        List<Integer> members = new ArrayList<>();
        for (int s = 0; s < sentences.size(); s++) {
            if ((set >> s & 1) != 0) {
                members.add(s);
            }
        }
        return members;
    }

    private List<Match> matchesIn(int set) {
        List<Match> in = new ArrayList<>();
        for (Match match : matches) {
            if ((set >> sentenceOf(match.first()) & 1) != 0) {
                in.add(match);
            }
        }
        return in;
    }

    private int itemsIn(int set) {
        return bits(matchesIn(set).stream().map(Match::item).toList());
    }

    private int worth(int set) {
        return setWorths[set];
    }

    private int length(int set) {
        int length = 0;
        for (int s : members(set)) {
            length += sentenceSigns[s] + 4;
        }
        return length;
    }

    private boolean apart(int set) {
        for (int s : members(set)) {
            for (int other : members(set)) {
                if (s != other && commons[s][other] > settings[2]) {
                    return false;
                }
            }
        }
        return true;
    }

    private boolean may(int set) {
        return Integer.bitCount(set) <= settings[1] && length(set) <= settings[0] && apart(set);
    }

    int set(int set, int what) {
        what(what, 3);
        if (set < 0 || set >= 1 << sentences.size()) {
            throw new IllegalArgumentException();
        }
        return what == 0 ? worth(set) : what == 1 ? length(set) : what == 2 ? (may(set) ? 1 : 0) : itemsIn(set);
    }

    int common(int sentence, int other) {
        index(sentence, sentences.size());
        index(other, sentences.size());
        return commons[sentence][other];
    }

    private int commonOf(int sentence, int other) {
        if (sentence == other) {
            return 100;
        }
        List<String> either = new ArrayList<>(unlike(sentence));
        either.addAll(unlike(other));
        int all = (int) either.stream().distinct().count();
        return all == 0 ? 0 : (either.size() - all) * 100 / all;
    }

    private List<Integer> steps() {
        List<Integer> steps = new ArrayList<>();
        int set = 0;
        while (true) {
            int next = -1;
            for (int s = 0; s < sentences.size(); s++) {
                boolean can = (set >> s & 1) == 0 && may(set | 1 << s) && gain(set, s) > 0;
                if (can && (next < 0 || better(set, s, next))) {
                    next = s;
                }
            }
            if (next < 0) {
                return steps;
            }
            steps.add(next);
            set |= 1 << next;
        }
    }

    private int gain(int set, int s) {
        return worth(set | 1 << s) - worth(set);
    }

    private boolean better(int set, int s, int other) {
        int crossed = Integer.compare(gain(set, s) * length(1 << other), gain(set, other) * length(1 << s));
        return crossed != 0 ? crossed > 0 : gain(set, s) > gain(set, other);
    }

    int step(int k) {
        List<Integer> steps = steps();
        return k < 0 || k >= steps.size() ? -1 : steps.get(k);
    }

    private int greedy() {
        int set = bits(steps());
        int alone = 0;
        for (int s = 0; s < sentences.size(); s++) {
            if (may(1 << s) && worth(1 << s) > worth(alone)) {
                alone = 1 << s;
            }
        }
        return worth(alone) > worth(set) ? alone : set;
    }

    private int best(int barred) {
        int best = 0;
        for (int set = 0; set < 1 << sentences.size(); set++) {
            if ((set & barred) != 0 || !may(set)) {
                continue;
            }
            int more = worth(set) - worth(best);
            if (more > 0 || more == 0 && length(set) < length(best)) {
                best = set;
            }
        }
        return best;
    }

    int choice(boolean best) {
        return best ? best(0) : greedy();
    }

    int take(boolean best) {
        chosen = choice(best);
        return worth(chosen);
    }

    int choose(int sentence) {
        index(sentence, sentences.size());
        if ((chosen >> sentence & 1) != 0 || !may(chosen | 1 << sentence)) {
            throw new IllegalStateException();
        }
        chosen |= 1 << sentence;
        return worth(chosen);
    }

    int drop(int sentence) {
        index(sentence, sentences.size());
        if ((chosen >> sentence & 1) == 0) {
            throw new IllegalStateException();
        }
        chosen -= 1 << sentence;
        return worth(chosen);
    }

    /** The two, and by how much more; null without. */
    private int[] exchanged() {
        int[] found = null;
        for (int out : members(chosen)) {
            for (int in = 0; in < sentences.size(); in++) {
                if ((chosen >> in & 1) != 0) {
                    continue;
                }
                int set = chosen - (1 << out) + (1 << in);
                int more = worth(set) - worth(chosen);
                if (may(set) && more > (found == null ? 0 : found[2])) {
                    found = new int[] {out, in, more};
                }
            }
        }
        return found;
    }

    int exchange(int what) {
        what(what, 2);
        int[] found = exchanged();
        return found == null ? (what == 2 ? 0 : -1) : found[what];
    }

    int trade() {
        int[] found = exchanged();
        if (found == null) {
            throw new IllegalStateException();
        }
        chosen += (1 << found[1]) - (1 << found[0]);
        return worth(chosen);
    }

    int rank(int k) {
        List<Integer> ranked = new ArrayList<>(members(-1));
        ranked.sort(Comparator.comparingInt((Integer s) -> -worth(1 << s)).thenComparingInt(s -> s));
        return k < 0 || k >= ranked.size() ? -1 : ranked.get(k);
    }

    int need(int w) {
        number(w, 1, 1008);
        int need = 701;
        for (int set = 0; set < 1 << sentences.size(); set++) {
            if (Integer.bitCount(set) <= settings[1] && apart(set) && worth(set) >= w) {
                need = Math.min(need, Math.max(20, length(set)));
            }
        }
        return need > 700 ? -1 : need;
    }

    int loss(int sentence) {
        index(sentence, sentences.size());
        return worth(best(0)) - worth(best(1 << sentence));
    }

    // ---- what is written

    private List<Stretch> marks(int first, int last, boolean soft) {
        List<Match> laid = new ArrayList<>(had(first, last).stream()
                .filter(m -> items.get(m.item()).soft() == soft).toList());
        List<Stretch> marks = new ArrayList<>();
        int sentence = -1;
        for (Match match : laid) {
            int begin = words.get(match.first()).begin();
            int end = words.get(match.last()).end();
            Stretch ahead = marks.isEmpty() ? null : marks.get(marks.size() - 1);
            boolean one = ahead != null && sentence == sentenceOf(match.first())
                    && (begin < ahead.end() || page.substring(ahead.end(), begin).matches("[\\t\\n ]+"));
            if (one) {
                marks.set(marks.size() - 1, new Stretch(ahead.begin(), Math.max(end, ahead.end()), ""));
            } else {
                marks.add(new Stretch(begin, end, ""));
            }
            sentence = sentenceOf(match.first());
        }
        return marks;
    }

    private String passage(int begin, int end, int first, int last) {
        List<Stretch> strong = first < 0 ? List.of() : marks(first, last, false);
        List<Stretch> soft = first < 0 ? List.of() : marks(first, last, true);
        StringBuilder text = new StringBuilder();
        for (int i = begin; i <= end; i++) {
            int at = i;
            boolean within = soft.stream().anyMatch(m -> m.begin() < at && at < m.end());
            boolean softEnds = soft.stream().anyMatch(m -> m.end() == at);
            boolean softBegins = soft.stream().anyMatch(m -> m.begin() == at);
            boolean strongEnds = strong.stream().anyMatch(m -> m.end() == at);
            boolean strongBegins = strong.stream().anyMatch(m -> m.begin() == at);
            boolean border = strongBegins || strongEnds;
            text.append(softEnds || within && border ? "</t>" : "");
            text.append(strongEnds ? "</s>" : "").append(strongBegins ? "<s>" : "");
            text.append(softBegins || within && border ? "<t>" : "");
            text.append(i == end ? "" : escaped(page.charAt(i)));
        }
        return text.toString();
    }

    private static String escaped(char c) {
        return c == '<' ? "&lt;" : c == '>' ? "&gt;" : c == '&' ? "&amp;" : c == '"' ? "&quot;" : "" + c;
    }

    int quote(int n) {
        number(n, 1, 600);
        Window widest = widest(0, words.size() - 1, n);
        written = "";
        if (widest != null) {
            written = (widest.first() > 0 ? ".." : "")
                    + passage(words.get(widest.first()).begin(), words.get(widest.last()).end(),
                            widest.first(), widest.last())
                    + (widest.last() < words.size() - 1 ? ".." : "");
        }
        return written.length();
    }

    int write(int n) {
        number(n, 10, 600);
        written = "";
        int ahead = -1;
        boolean openAhead = false;
        for (int s : members(chosen)) {
            Cut cut = cut(s, n);
            if (cut == null) {
                continue;
            }
            List<Integer> of = wordsOf(s);
            boolean left = !cut.whole() && cut.first() != of.get(0);
            boolean right = !cut.whole() && cut.last() != of.get(of.size() - 1);
            if (ahead < 0) {
                written = left ? ".." : "";
            } else {
                written += ahead + 1 == s && !openAhead && !left ? " " : " .. ";
            }
            written += passage(left ? words.get(cut.first()).begin() : sentences.get(s).begin(),
                    right ? words.get(cut.last()).end() : sentences.get(s).end(), cut.first(), cut.last());
            ahead = s;
            openAhead = right;
        }
        written += openAhead ? ".." : "";
        return written.length();
    }

    int octet(int k) {
        return k < 0 || k >= written.length() ? -1 : written.charAt(k);
    }

    int marks(boolean strong) {
        return written.split(strong ? "<s>" : "<t>", -1).length - 1;
    }

    int count(int what) {
        switch (what) {
            case 0:
                return page.length();
            case 1:
                return signs.size();
            case 2:
                return words.size();
            case 3:
                return sentences.size();
            case 4:
                return items.size();
            case 5:
                return matches.size();
            case 6:
            case 7:
            case 8:
                return settings[what - 6];
            case 9:
                return chosen;
            case 10:
                List<String> unlike = new ArrayList<>();
                for (int w = 0; w < words.size(); w++) {
                    unlike.add(lower(w));
                }
                return (int) unlike.stream().distinct().count();
            case 11:
                return worth((1 << sentences.size()) - 1);
            case 12:
                return written.length();
            case 13:
                return variety();
            case 14:
                int best = worth(best(0));
                return best == 0 ? 100 : worth(greedy()) * 100 / best;
            default:
                return -1;
        }
    }

    private int variety() {
        int most = 0;
        for (int set = 0; set < 1 << sentences.size(); set++) {
            if (Integer.bitCount(set) > Integer.bitCount(most) && apart(set)) {
                most = set;
            }
        }
        return most;
    }

    // ---- what all ask

    private static int bits(List<Integer> numbers) {
        return numbers.stream().reduce(0, (set, n) -> set | 1 << n);
    }

    private static void index(int i, int size) {
        if (i < 0 || i >= size) {
            throw new IndexOutOfBoundsException();
        }
    }

    private static void what(int what, int last) {
        if (what < 0 || what > last) {
            throw new NoSuchElementException();
        }
    }

    private static void number(int n, int low, int high) {
        if (n < low || n > high) {
            throw new IllegalArgumentException();
        }
    }
}
