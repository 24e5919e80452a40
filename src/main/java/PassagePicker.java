import java.util.Arrays;
import java.util.NoSuchElementException;

/** Picks passages of a page for what is sought, as ../shared/DOC.md says. */
public final class PassagePicker {
    public static final int NONE = -1;

    private static final int MAX_BYTES = 600;
    private static final int MAX_WORDS = 100;
    private static final int MAX_SENTENCES = 14;
    private static final int MAX_ITEMS = 8;
    private static final int MAX_TERMS = 4;
    private static final int MAX_LETTERS = 12;
    private static final int MAX_WEIGHT = 9;
    private static final int FED_BYTES = 20;

    private static final int MIN_BUDGET = 20;
    private static final int MAX_BUDGET = 700;
    private static final int MAX_MOST = 6;
    private static final int MAX_LIMIT = 100;
    private static final int MAX_WORTH = 1008;
    private static final int MIN_CUT = 10;
    private static final int JOINT_SIGNS = 4;

    // WEIGHT is worth this many times for no, one, two, three and more MATCHES.
    private static final int[] TIMES = {0, 10, 13, 14};

    private final Tape tape;
    private final Page page;
    private final Query query;
    private final Query draft;
    private final QueryReader reader;
    private final Matches matches;
    private final Windows windows;
    private final Sets sets;
    private final Writer writer;
    private int fault;

    public PassagePicker() {
        tape = new Tape();
        page = new Page();
        query = new Query();
        draft = new Query();
        reader = new QueryReader(tape, draft);
        matches = new Matches(page, query);
        windows = new Windows(page, query, matches);
        sets = new Sets(page, query, matches);
        writer = new Writer(page, query, matches, windows);
        fault = NONE;
    }

    public int feed(int a, int b, int c, int d, int e) {
        if (tape.length + FED_BYTES > MAX_BYTES) {
            return NONE;
        }
        tape.append(a);
        tape.append(b);
        tape.append(c);
        tape.append(d);
        tape.append(e);
        return tape.length;
    }

    public boolean end(int n) {
        if (n < 0 || n > tape.length) {
            return false;
        }
        tape.length = n;
        return true;
    }

    public int page() {
        page.readFrom(tape);
        tape.length = 0;
        matches.findAll();
        sets.startAnew();
        return page.sentences;
    }

    public int query() throws IllegalArgumentException {
        fault = reader.readAll();
        tape.length = 0;
        if (fault != NONE) {
            throw new IllegalArgumentException("the query's text is wrong");
        }
        query.copyFrom(draft);
        matches.findAll();
        sets.startAnew();
        return query.items;
    }

    public int fault() {
        return fault;
    }

    public int tell(int what, int n) throws NoSuchElementException, IllegalArgumentException {
        requireWhat(what, 2);
        int was = sets.setting(what);
        if (what == 0) {
            requireNumber(n, MIN_BUDGET, MAX_BUDGET);
            sets.budget = n;
        } else if (what == 1) {
            requireNumber(n, 1, MAX_MOST);
            sets.most = n;
        } else {
            requireNumber(n, 0, MAX_LIMIT);
            sets.limit = n;
        }
        sets.startAnew();
        return was;
    }

    public int sign(int k) {
        return page.beginOfSign(k);
    }

    public int signOf(int i) {
        return i < 0 || i >= page.length ? NONE : page.signAt[i];
    }

    public int word(int word, int what) throws IndexOutOfBoundsException, NoSuchElementException {
        requireIndex(word, page.words);
        requireWhat(what, 5);
        switch (what) {
            case 0:
                return page.wordBegin[word];
            case 1:
                return page.wordEnd[word] - page.wordBegin[word];
            case 2:
                return page.windowLength(word, word);
            case 3:
                return page.wordSentence[word];
            case 4:
                return matches.touching[word];
            default:
                return page.wordAlike[word];
        }
    }

    public int sentence(int sentence, int what) throws IndexOutOfBoundsException, NoSuchElementException {
        requireIndex(sentence, page.sentences);
        requireWhat(what, 10);
        switch (what) {
            case 0:
                return page.sentenceBegin[sentence];
            case 1:
                return page.sentenceEnd[sentence] - page.sentenceBegin[sentence];
            case 2:
                return page.sentenceSigns[sentence];
            case 3:
                return page.sentenceFirst[sentence];
            case 4:
                return page.sentenceWords[sentence];
            case 5:
                return page.unlikeWords(sentence);
            case 6:
                return query.itemsOf(matches.tallies[sentence]);
            case 7:
                return query.worthOf(matches.tallies[sentence]);
            case 8:
                return sets.gain(sets.chosen, sentence);
            case 9:
                return sets.mayJoin(sets.chosen, sentence) ? 1 : 0;
            default:
                return page.echo(sentence);
        }
    }

    public int item(int item, int what) throws IndexOutOfBoundsException, NoSuchElementException {
        requireIndex(item, query.items);
        requireWhat(what, 4);
        switch (what) {
            case 0:
                return query.weights[item];
            case 1:
                return query.isStrong(item) ? 1 : 0;
            case 2:
                return query.termCounts[item];
            case 3:
                return query.countIn(matches.tallyOf(allSentences()), item);
            default:
                return matches.sentencesWith(item);
        }
    }

    public boolean fits(int item, int term, int word) throws IndexOutOfBoundsException {
        requireIndex(item, query.items);
        requireIndex(word, page.words);
        if (term < 0 || term >= query.termCounts[item]) {
            return false;
        }
        return matches.termFits(item, term, word);
    }

    public int match(int match, int what) throws IndexOutOfBoundsException, NoSuchElementException {
        requireIndex(match, matches.total);
        requireWhat(what, 2);
        int first = matches.firstWordOf(match);
        int item = matches.itemOf(match);
        switch (what) {
            case 0:
                return item;
            case 1:
                return first;
            default:
                return first + query.termCounts[item] - 1;
        }
    }

    public int window(int set, int k, int what) throws NoSuchElementException, IllegalArgumentException {
        requireWhat(what, 2);
        requireItems(set);
        if (k == NONE) {
            return windows.countMinimal(set);
        }
        windows.seekMinimal(set, k);
        return windows.found(what);
    }

    public int least(int set, int what) throws NoSuchElementException, IllegalArgumentException {
        requireWhat(what, 2);
        requireItems(set);
        windows.seekLeast(set);
        return windows.found(what);
    }

    public int most(int n) throws IllegalArgumentException {
        requireNumber(n, 1, MAX_BYTES);
        return windows.mostItems(n);
    }

    public int widest(int n, int what) throws NoSuchElementException, IllegalArgumentException {
        requireWhat(what, 3);
        requireNumber(n, 1, MAX_BYTES);
        windows.seekWidest(0, page.words - 1, n);
        return what == 3 ? windows.worth : windows.found(what);
    }

    public int cut(int sentence, int n, int what)
            throws IndexOutOfBoundsException, NoSuchElementException, IllegalArgumentException {
        requireIndex(sentence, page.sentences);
        requireWhat(what, 2);
        requireNumber(n, MIN_CUT, MAX_BYTES);
        windows.seekCut(sentence, n);
        if (what == 2) {
            return windows.whole ? 1 : 0;
        }
        return windows.found(what);
    }

    public int set(int set, int what) throws NoSuchElementException, IllegalArgumentException {
        requireWhat(what, 3);
        requireSentences(set);
        switch (what) {
            case 0:
                return sets.worthOfSet(set);
            case 1:
                return sets.lengthOfSet(set);
            case 2:
                return sets.mayBe(set) ? 1 : 0;
            default:
                return query.itemsOf(matches.tallyOf(set));
        }
    }

    public int common(int sentence, int other) throws IndexOutOfBoundsException {
        requireIndex(sentence, page.sentences);
        requireIndex(other, page.sentences);
        return page.inCommon(sentence, other);
    }

    public int step(int k) {
        sets.makeSteps();
        return k < 0 || k >= sets.stepCount ? NONE : sets.steps[k];
    }

    public int choice(boolean best) {
        return best ? sets.bestSet() : sets.greedySet();
    }

    public int take(boolean best) {
        sets.chosen = best ? sets.bestSet() : sets.greedySet();
        return sets.worthOfSet(sets.chosen);
    }

    public int choose(int sentence) throws IndexOutOfBoundsException, IllegalStateException {
        requireIndex(sentence, page.sentences);
        if (!sets.mayJoin(sets.chosen, sentence)) {
            throw new IllegalStateException("the sentence may not be chosen");
        }
        sets.chosen |= 1 << sentence;
        return sets.worthOfSet(sets.chosen);
    }

    public int drop(int sentence) throws IndexOutOfBoundsException, IllegalStateException {
        requireIndex(sentence, page.sentences);
        if (!has(sets.chosen, sentence)) {
            throw new IllegalStateException("the sentence is not chosen");
        }
        sets.chosen &= ~(1 << sentence);
        return sets.worthOfSet(sets.chosen);
    }

    public int exchange(int what) throws NoSuchElementException {
        requireWhat(what, 2);
        sets.seekExchange();
        switch (what) {
            case 0:
                return sets.leaving;
            case 1:
                return sets.coming;
            default:
                return sets.surplus;
        }
    }

    public int trade() throws IllegalStateException {
        sets.seekExchange();
        if (sets.leaving == NONE) {
            throw new IllegalStateException("no exchange is worth more");
        }
        sets.chosen = sets.exchanged(sets.leaving, sets.coming);
        return sets.worthOfSet(sets.chosen);
    }

    public int rank(int k) {
        return k < 0 || k >= page.sentences ? NONE : sets.ranked(k);
    }

    public int need(int w) throws IllegalArgumentException {
        requireNumber(w, 1, MAX_WORTH);
        return sets.leastBudgetFor(w);
    }

    public int loss(int sentence) throws IndexOutOfBoundsException {
        requireIndex(sentence, page.sentences);
        return sets.lossWithout(sentence);
    }

    public int quote(int n) throws IllegalArgumentException {
        requireNumber(n, 1, MAX_BYTES);
        writer.writeWidest(n);
        return writer.length;
    }

    public int write(int n) throws IllegalArgumentException {
        requireNumber(n, MIN_CUT, MAX_BYTES);
        writer.writeSet(sets.chosen, n);
        return writer.length;
    }

    public int octet(int k) {
        return k < 0 || k >= writer.length ? NONE : writer.bytes[k];
    }

    public int marks(boolean strong) {
        return strong ? writer.strongBegun : writer.softBegun;
    }

    public int count(int what) {
        switch (what) {
            case 0:
                return page.length;
            case 1:
                return page.signs;
            case 2:
                return page.words;
            case 3:
                return page.sentences;
            case 4:
                return query.items;
            case 5:
                return matches.total;
            case 6:
                return sets.budget;
            case 7:
                return sets.most;
            case 8:
                return sets.limit;
            case 9:
                return sets.chosen;
            case 10:
                return page.unlikeOfAll();
            case 11:
                return sets.worthOfSet(allSentences());
            case 12:
                return writer.length;
            case 13:
                return sets.variety();
            case 14:
                return sets.hundredths(sets.greedySet(), sets.bestSet());
            default:
                return NONE;
        }
    }

    private int allSentences() {
        return (1 << page.sentences) - 1;
    }

    private static void requireIndex(int index, int size) {
        if (index < 0 || index >= size) {
            throw new IndexOutOfBoundsException("there is no such thing");
        }
    }

    private static void requireWhat(int what, int last) {
        if (what < 0 || what > last) {
            throw new NoSuchElementException("there is no such question");
        }
    }

    private static void requireNumber(int n, int lowest, int highest) {
        if (n < lowest || n > highest) {
            throw new IllegalArgumentException("the number is out of its range");
        }
    }

    private void requireItems(int set) {
        if (set == 0 || set >>> query.items != 0) {
            throw new IllegalArgumentException("no set of items");
        }
    }

    private void requireSentences(int set) {
        if (set >>> page.sentences != 0) {
            throw new IllegalArgumentException("no set of sentences");
        }
    }

    private static boolean has(int set, int member) {
        return (set >>> member & 1) != 0;
    }

    private static boolean isSmallLetter(int octet) {
        return octet >= 'a' && octet <= 'z';
    }

    private static boolean isDigit(int octet) {
        return octet >= '0' && octet <= '9';
    }

    private static boolean isBlank(int octet) {
        return octet == 9 || octet == 10 || octet == 32;
    }

    // Capital letters as small ones, all else as it is.
    private static int small(int octet) {
        return octet >= 'A' && octet <= 'Z' ? octet + ('a' - 'A') : octet;
    }

    /** The bytes that are fed, till the page or the query takes them. */
    private static final class Tape {
        final int[] bytes = new int[MAX_BYTES];
        int length;

        void append(int number) {
            for (int shift = 24; shift >= 0 && length < MAX_BYTES; shift -= 8) {
                bytes[length] = number >>> shift & 255;
                length++;
            }
        }

        int at(int i) {
            return i < 0 || i >= length ? NONE : bytes[i];
        }
    }

    /** The page with its signs, words and sentences. */
    private static final class Page {
        final int[] bytes = new int[MAX_BYTES];
        private final boolean[] letterAt = new boolean[MAX_BYTES];
        final int[] signAt = new int[MAX_BYTES + 1];
        final int[] wordBegin = new int[MAX_WORDS];
        final int[] wordEnd = new int[MAX_WORDS];
        final int[] wordSentence = new int[MAX_WORDS];
        final int[] wordAlike = new int[MAX_WORDS];
        final int[] sentenceBegin = new int[MAX_SENTENCES];
        final int[] sentenceEnd = new int[MAX_SENTENCES];
        final int[] sentenceSigns = new int[MAX_SENTENCES];
        final int[] sentenceFirst = new int[MAX_SENTENCES];
        final int[] sentenceWords = new int[MAX_SENTENCES];
        // The unlike words of each sentence as bits: those below 64, those from there on.
        final long[] lowWords = new long[MAX_SENTENCES];
        final long[] highWords = new long[MAX_SENTENCES];
        int length;
        int signs;
        int words;
        int sentences;

        void readFrom(Tape tape) {
            length = tape.length;
            for (int i = 0; i < length; i++) {
                bytes[i] = tape.at(i);
            }
            findSigns();
            findSentences();
            findWords();
            findAlike();
            placeWords();
        }

        int at(int i) {
            return i < 0 || i >= length ? NONE : bytes[i];
        }

        // No first byte of a pair can be a second one, so the byte ahead decides alone.
        boolean isSecondOfPair(int i) {
            return at(i) >= 128 && at(i) <= 191 && at(i - 1) >= 192;
        }

        boolean isLetter(int i) {
            return i >= 0 && i < length && letterAt[i];
        }

        void findSigns() {
            signs = 0;
            for (int i = 0; i < length; i++) {
                if (!isSecondOfPair(i)) {
                    signs++;
                }
                signAt[i] = signs - 1;
                letterAt[i] = isSmallLetter(small(at(i))) || isSecondOfPair(i) || isSecondOfPair(i + 1);
            }
            signAt[length] = signs;
        }

        int beginOfSign(int k) {
            for (int i = 0; i < length; i++) {
                if (signAt[i] == k) {
                    return i;
                }
            }
            return NONE;
        }

        void findWords() {
            words = 0;
            for (int i = 0; i < length && words < MAX_WORDS; i++) {
                if (isLetter(i) && !isLetter(i - 1)) {
                    wordBegin[words] = i;
                }
                if (isLetter(i) && !isLetter(i + 1)) {
                    wordEnd[words] = i + 1;
                    words++;
                }
            }
        }

        void findSentences() {
            sentences = 0;
            int behind = 0;
            for (int s = 0; s < MAX_SENTENCES; s++) {
                int begin = firstNotBlank(behind);
                if (begin == length) {
                    break;
                }
                behind = endOfSentence(begin);
                sentenceBegin[s] = begin;
                sentenceEnd[s] = behind;
                sentenceSigns[s] = signAt[behind] - signAt[begin];
                sentences++;
            }
        }

        int firstNotBlank(int from) {
            for (int i = from; i < length; i++) {
                if (!isBlank(at(i))) {
                    return i;
                }
            }
            return length;
        }

        int endOfSentence(int begin) {
            for (int i = begin; i < length; i++) {
                int behind = behindClosing(i);
                if (behind != NONE) {
                    return behind;
                }
                if (isEmptyLineAhead(i)) {
                    return withoutBlanks(begin, i);
                }
            }
            return withoutBlanks(begin, length);
        }

        // Where a sentence ends that the byte at i closes, with all that closes behind it.
        int behindClosing(int i) {
            if (!isStop(at(i))) {
                return NONE;
            }
            int behind = i + 1;
            while (behind < length && isCloser(at(behind))) {
                behind++;
            }
            if (behind < length && !isBlank(at(behind))) {
                return NONE;
            }
            boolean alone = behind == i + 1;
            return alone && at(i) == '.' && isLoneLetter(i - 1) ? NONE : behind;
        }

        boolean isStop(int octet) {
            return octet == '.' || octet == '!' || octet == '?';
        }

        boolean isCloser(int octet) {
            return isStop(octet) || octet == ')' || octet == '"';
        }

        // Whether the byte ends a letter that has no letter right ahead of it.
        boolean isLoneLetter(int last) {
            boolean pair = last > 0 && signAt[last - 1] == signAt[last];
            return isLetter(last) && !isLetter(pair ? last - 2 : last - 1);
        }

        boolean isEmptyLineAhead(int i) {
            if (at(i) != 10) {
                return false;
            }
            int next = i + 1;
            while (next < length && (at(next) == 9 || at(next) == 32)) {
                next++;
            }
            return at(next) == 10;
        }

        int withoutBlanks(int begin, int end) {
            int last = end;
            while (last > begin && isBlank(at(last - 1))) {
                last--;
            }
            return last;
        }

        void findAlike() {
            for (int w = 0; w < words; w++) {
                wordAlike[w] = w;
                for (int v = 0; v < w; v++) {
                    if (areAlike(v, w)) {
                        wordAlike[w] = v;
                        break;
                    }
                }
            }
        }

        boolean areAlike(int v, int w) {
            int size = wordEnd[v] - wordBegin[v];
            if (wordEnd[w] - wordBegin[w] != size) {
                return false;
            }
            for (int i = 0; i < size; i++) {
                if (small(at(wordBegin[v] + i)) != small(at(wordBegin[w] + i))) {
                    return false;
                }
            }
            return true;
        }

        void placeWords() {
            for (int s = 0; s < sentences; s++) {
                sentenceFirst[s] = NONE;
                sentenceWords[s] = 0;
                lowWords[s] = 0;
                highWords[s] = 0;
            }
            int s = 0;
            for (int w = 0; w < words; w++) {
                while (s < sentences && sentenceEnd[s] <= wordBegin[w]) {
                    s++;
                }
                wordSentence[w] = s < sentences ? s : NONE;
                if (s < sentences) {
                    addToSentence(w, s);
                }
            }
        }

        void addToSentence(int w, int s) {
            if (sentenceWords[s] == 0) {
                sentenceFirst[s] = w;
            }
            sentenceWords[s]++;
            int alike = wordAlike[w];
            if (alike < 64) {
                lowWords[s] |= 1L << alike;
            } else {
                highWords[s] |= 1L << alike - 64;
            }
        }

        int windowLength(int first, int last) {
            return signAt[wordEnd[last]] - signAt[wordBegin[first]];
        }

        // As one of a set of sentences.
        int lengthOf(int s) {
            return sentenceSigns[s] + JOINT_SIGNS;
        }

        int lastWordOf(int s) {
            return sentenceWords[s] == 0 ? NONE : sentenceFirst[s] + sentenceWords[s] - 1;
        }

        int unlikeWords(int s) {
            return Long.bitCount(lowWords[s]) + Long.bitCount(highWords[s]);
        }

        int unlikeOfAll() {
            int unlike = 0;
            for (int w = 0; w < words; w++) {
                if (wordAlike[w] == w) {
                    unlike++;
                }
            }
            return unlike;
        }

        int inCommon(int s, int other) {
            if (s == other) {
                return 100;
            }
            int both = Long.bitCount(lowWords[s] & lowWords[other])
                    + Long.bitCount(highWords[s] & highWords[other]);
            int either = unlikeWords(s) + unlikeWords(other) - both;
            return either == 0 ? 0 : both * 100 / either;
        }

        int echo(int s) {
            int echo = NONE;
            int most = 0;
            for (int other = 0; other < sentences; other++) {
                if (other != s && inCommon(s, other) > most) {
                    echo = other;
                    most = inCommon(s, other);
                }
            }
            return echo;
        }
    }

    /**
     * What is sought. A tally says how many matches there are of each item, a byte for each:
     * no item has more matches than there are words, so that none runs over into the next.
     */
    private static final class Query {
        final int[] weights = new int[MAX_ITEMS];
        final int[] termCounts = new int[MAX_ITEMS];
        final int[] termSizes = new int[MAX_ITEMS * MAX_TERMS];
        final int[] letters = new int[MAX_ITEMS * MAX_TERMS * MAX_LETTERS];
        int starredTerms;
        int softItems;
        int items;

        void clear() {
            items = 0;
            softItems = 0;
            starredTerms = 0;
        }

        void addItem(int weight, boolean soft) {
            if (items < MAX_ITEMS) {
                weights[items] = weight;
                termCounts[items] = 0;
                softItems |= soft ? 1 << items : 0;
                items++;
            }
        }

        void addTerm(Tape text, int begin, int size, boolean starred) {
            int item = items - 1;
            if (item < 0 || termCounts[item] >= MAX_TERMS || size > MAX_LETTERS) {
                return;
            }
            int term = item * MAX_TERMS + termCounts[item];
            for (int i = 0; i < size; i++) {
                letters[term * MAX_LETTERS + i] = text.at(begin + i);
            }
            termSizes[term] = size;
            starredTerms |= starred ? 1 << term : 0;
            termCounts[item]++;
        }

        void copyFrom(Query other) {
            items = other.items;
            softItems = other.softItems;
            starredTerms = other.starredTerms;
            System.arraycopy(other.weights, 0, weights, 0, MAX_ITEMS);
            System.arraycopy(other.termCounts, 0, termCounts, 0, MAX_ITEMS);
            System.arraycopy(other.termSizes, 0, termSizes, 0, MAX_ITEMS * MAX_TERMS);
            System.arraycopy(other.letters, 0, letters, 0, MAX_ITEMS * MAX_TERMS * MAX_LETTERS);
        }

        boolean isStrong(int item) {
            return !has(softItems, item);
        }

        long oneOf(int item) {
            return 1L << item * 8;
        }

        int countIn(long tally, int item) {
            return (int) (tally >>> item * 8 & 255);
        }

        int worthOf(long tally) {
            int worth = 0;
            for (int item = 0; item < items; item++) {
                worth += weights[item] * TIMES[Math.min(countIn(tally, item), TIMES.length - 1)];
            }
            return worth;
        }

        int itemsOf(long tally) {
            int set = 0;
            for (int item = 0; item < items; item++) {
                set |= countIn(tally, item) > 0 ? 1 << item : 0;
            }
            return set;
        }
    }

    /** Reads a query's text, and stops at its fault. */
    private static final class QueryReader {
        private final Tape text;
        private final Query into;
        private int at;
        private int fault;

        QueryReader(Tape text, Query into) {
            this.text = text;
            this.into = into;
        }

        // Answers where the fault is.
        int readAll() {
            at = 0;
            fault = NONE;
            into.clear();
            skipBlanks();
            for (int item = 0; item <= MAX_ITEMS && at < text.length && fault == NONE; item++) {
                readItem();
                skipBlanks();
            }
            return fault;
        }

        void readItem() {
            if (into.items == MAX_ITEMS || !isWordHere("item")) {
                fault = at;
                return;
            }
            at += lettersHere();
            skipBlanks();
            int digit = text.at(at);
            if (digit <= '0' || digit > '0' + MAX_WEIGHT || isDigit(text.at(at + 1))) {
                fault = at;
                return;
            }
            at++;
            skipBlanks();
            boolean soft = isWordHere("soft");
            if (soft) {
                at += lettersHere();
            }
            into.addItem(digit - '0', soft);
            readTerms();
        }

        // One round more than there may be terms: the last one finds the end, or a term too many.
        void readTerms() {
            for (int term = 0; term <= MAX_TERMS; term++) {
                skipBlanks();
                if (term > 0 && text.at(at) == ';') {
                    at++;
                    return;
                }
                int size = lettersHere();
                if (size == 0 || size > MAX_LETTERS || term == MAX_TERMS) {
                    fault = at;
                    return;
                }
                boolean starred = text.at(at + size) == '*';
                into.addTerm(text, at, size, starred);
                at += starred ? size + 1 : size;
            }
        }

        void skipBlanks() {
            while (at < text.length && isBlank(text.at(at))) {
                at++;
            }
        }

        int lettersHere() {
            int size = 0;
            while (at + size < text.length && isSmallLetter(text.at(at + size))) {
                size++;
            }
            return size;
        }

        boolean isWordHere(String word) {
            int size = word.length();
            if (lettersHere() != size) {
                return false;
            }
            for (int i = 0; i < size; i++) {
                if (text.at(at + i) != word.charAt(i)) {
                    return false;
                }
            }
            return true;
        }
    }

    /** Where the items of the query match in the page; rows of bits over the words. */
    private static final class Matches {
        private final Page page;
        private final Query query;
        final int[] beginning = new int[MAX_WORDS];
        final int[] ending = new int[MAX_WORDS];
        final int[] touching = new int[MAX_WORDS];
        final long[] tallies = new long[MAX_SENTENCES];
        int total;

        Matches(Page page, Query query) {
            this.page = page;
            this.query = query;
        }

        void findAll() {
            total = 0;
            Arrays.fill(beginning, 0);
            Arrays.fill(ending, 0);
            Arrays.fill(touching, 0);
            Arrays.fill(tallies, 0L);
            for (int w = 0; w < page.words; w++) {
                for (int item = 0; item < query.items; item++) {
                    if (matchesFrom(w, item)) {
                        add(w, item);
                    }
                }
            }
        }

        boolean matchesFrom(int w, int item) {
            int size = query.termCounts[item];
            int sentence = page.wordSentence[w];
            if (sentence == NONE || w + size - 1 > page.lastWordOf(sentence)) {
                return false;
            }
            for (int term = 0; term < size; term++) {
                if (!termFits(item, term, w + term)) {
                    return false;
                }
            }
            return true;
        }

        boolean termFits(int item, int term, int word) {
            int row = item * MAX_TERMS + term;
            int size = query.termSizes[row];
            int begin = page.wordBegin[word];
            int bytes = page.wordEnd[word] - begin;
            if (bytes < size || bytes > size && !has(query.starredTerms, row)) {
                return false;
            }
            for (int i = 0; i < size; i++) {
                if (small(page.at(begin + i)) != query.letters[row * MAX_LETTERS + i]) {
                    return false;
                }
            }
            return true;
        }

        void add(int w, int item) {
            int last = w + query.termCounts[item] - 1;
            total++;
            beginning[w] |= 1 << item;
            ending[last] |= 1 << item;
            for (int i = w; i <= last; i++) {
                touching[i] |= 1 << item;
            }
            tallies[page.wordSentence[w]] += query.oneOf(item);
        }

        int firstWordOf(int match) {
            int ahead = 0;
            for (int w = 0; w < page.words; w++) {
                ahead += Integer.bitCount(beginning[w]);
                if (ahead > match) {
                    return w;
                }
            }
            return NONE;
        }

        int itemOf(int match) {
            int ahead = 0;
            for (int w = 0; w < page.words; w++) {
                for (int item = 0; item < query.items; item++) {
                    ahead += beginning[w] >>> item & 1;
                    if (ahead > match) {
                        return item;
                    }
                }
            }
            return 0;
        }

        int sentencesWith(int item) {
            int set = 0;
            for (int s = 0; s < page.sentences; s++) {
                set |= query.countIn(tallies[s], item) > 0 ? 1 << s : 0;
            }
            return set;
        }

        long tallyOf(int set) {
            long tally = 0;
            for (int s = 0; s < page.sentences; s++) {
                tally += has(set, s) ? tallies[s] : 0;
            }
            return tally;
        }
    }

    /** Windows of the page; the one that was sought last stays in first, last, worth and whole. */
    private static final class Windows {
        private static final int NOWHERE = MAX_WORDS;

        private final Page page;
        private final Query query;
        private final Matches matches;
        private final int[] nextEnds = new int[MAX_ITEMS];
        // For each first word the least last one with which all items of a set are had.
        private final int[] reach = new int[MAX_WORDS + 1];
        int first;
        int last;
        int worth;
        boolean whole;

        Windows(Page page, Query query, Matches matches) {
            this.page = page;
            this.query = query;
            this.matches = matches;
        }

        void forget() {
            first = NONE;
            last = NONE;
            worth = 0;
            whole = false;
        }

        int found(int what) {
            if (first == NONE) {
                return NONE;
            }
            if (what == 0) {
                return first;
            }
            return what == 1 ? last : page.windowLength(first, last);
        }

        void findReach(int set) {
            Arrays.fill(nextEnds, NOWHERE);
            reach[page.words] = NOWHERE;
            for (int w = page.words - 1; w >= 0; w--) {
                reach[w] = 0;
                for (int item = 0; item < query.items; item++) {
                    if (has(matches.beginning[w], item)) {
                        nextEnds[item] = w + query.termCounts[item] - 1;
                    }
                    if (has(set, item)) {
                        reach[w] = Math.max(reach[w], nextEnds[item]);
                    }
                }
            }
        }

        boolean isMinimalFrom(int w) {
            return reach[w] < reach[w + 1];
        }

        int countMinimal(int set) {
            findReach(set);
            int count = 0;
            for (int w = 0; w < page.words; w++) {
                count += isMinimalFrom(w) ? 1 : 0;
            }
            return count;
        }

        void seekMinimal(int set, int k) {
            forget();
            findReach(set);
            int ahead = 0;
            for (int w = 0; w < page.words; w++) {
                if (isMinimalFrom(w)) {
                    if (ahead == k) {
                        first = w;
                        last = reach[w];
                    }
                    ahead++;
                }
            }
        }

        void seekLeast(int set) {
            forget();
            findReach(set);
            for (int w = 0; w < page.words; w++) {
                if (isMinimalFrom(w) && (first == NONE
                        || page.windowLength(w, reach[w]) < page.windowLength(first, last))) {
                    first = w;
                    last = reach[w];
                }
            }
        }

        // Items with a match that ends at a word and does not begin ahead of another one.
        int endingWithin(int from, int w) {
            int set = 0;
            for (int item = 0; item < query.items && matches.ending[w] != 0; item++) {
                if (has(matches.ending[w], item) && w - query.termCounts[item] + 1 >= from) {
                    set |= 1 << item;
                }
            }
            return set;
        }

        int mostItems(int n) {
            int most = 0;
            for (int from = 0; from < page.words; from++) {
                int had = 0;
                for (int to = from; to < page.words && page.windowLength(from, to) <= n; to++) {
                    had |= endingWithin(from, to);
                }
                most = Math.max(most, Integer.bitCount(had));
            }
            return most;
        }

        void seekWidest(int lowest, int highest, int n) {
            forget();
            for (int from = Math.max(lowest, 0); from <= highest; from++) {
                // Where no match begins, the window from the next word on is worth as much.
                if (matches.beginning[from] != 0) {
                    widenFrom(from, highest, n);
                }
            }
        }

        void widenFrom(int from, int highest, int n) {
            long tally = 0;
            for (int to = from; to <= highest && page.windowLength(from, to) <= n; to++) {
                int more = endingWithin(from, to);
                for (int item = 0; item < query.items && more != 0; item++) {
                    tally += has(more, item) ? query.oneOf(item) : 0;
                }
                if (more != 0) {
                    keepIfWorthier(from, to, query.worthOf(tally));
                }
            }
        }

        void keepIfWorthier(int from, int to, int value) {
            boolean shorter = first != NONE
                    && page.windowLength(from, to) < page.windowLength(first, last);
            if (value > worth || value == worth && shorter) {
                first = from;
                last = to;
                worth = value;
            }
        }

        void seekCut(int sentence, int n) {
            int begin = page.sentenceFirst[sentence];
            int end = page.lastWordOf(sentence);
            if (page.sentenceSigns[sentence] <= n) {
                forget();
                first = begin;
                last = end;
                whole = true;
                return;
            }
            seekWidest(begin, end, n);
            if (first == NONE && begin != NONE) {
                seekBeginning(begin, end, n);
            }
        }

        void seekBeginning(int begin, int end, int n) {
            for (int to = begin; to <= end && page.windowLength(begin, to) <= n; to++) {
                first = begin;
                last = to;
            }
        }
    }

    /** Sets of sentences: which may be, which are worth most, and the one that is chosen. */
    private static final class Sets {
        private final Page page;
        private final Query query;
        private final Matches matches;
        private final Search search;
        int budget = 200;
        int most = 3;
        int limit = 60;
        int chosen;

        final int[] steps = new int[MAX_MOST];
        int stepCount;

        private boolean bestKnown;
        private int best;

        int leaving;
        int coming;
        int surplus;

        Sets(Page page, Query query, Matches matches) {
            this.page = page;
            this.query = query;
            this.matches = matches;
            search = new Search(page, query, matches);
        }

        int setting(int what) {
            if (what == 0) {
                return budget;
            }
            return what == 1 ? most : limit;
        }

        void startAnew() {
            chosen = 0;
            bestKnown = false;
            search.findTooLike(limit);
        }

        int lengthOfSet(int set) {
            int length = 0;
            for (int s = 0; s < page.sentences; s++) {
                length += has(set, s) ? page.lengthOf(s) : 0;
            }
            return length;
        }

        int worthOfSet(int set) {
            return query.worthOf(matches.tallyOf(set));
        }

        boolean mayBe(int set) {
            return Integer.bitCount(set) <= most && lengthOfSet(set) <= budget && search.areApart(set);
        }

        boolean mayJoin(int set, int s) {
            return !has(set, s) && mayBe(set | 1 << s);
        }

        int gain(int set, int s) {
            return worthOfSet(set | 1 << s) - worthOfSet(set);
        }

        int makeSteps() {
            stepCount = 0;
            int set = 0;
            for (int k = 0; k < MAX_MOST; k++) {
                int next = nextStep(set);
                if (next == NONE) {
                    break;
                }
                steps[k] = next;
                stepCount++;
                set |= 1 << next;
            }
            return set;
        }

        int nextStep(int set) {
            int next = NONE;
            int nextGain = 0;
            int now = worthOfSet(set);
            for (int s = 0; s < page.sentences; s++) {
                int gain = worthOfSet(set | 1 << s) - now;
                boolean better = next == NONE
                        || isBetterStep(gain, page.lengthOf(s), nextGain, page.lengthOf(next));
                if (gain > 0 && better && mayBe(set | 1 << s)) {
                    next = s;
                    nextGain = gain;
                }
            }
            return next;
        }

        boolean isBetterStep(int gain, int length, int otherGain, int otherLength) {
            int cross = gain * otherLength;
            int otherCross = otherGain * length;
            return cross > otherCross || cross == otherCross && gain > otherGain;
        }

        int greedySet() {
            int set = makeSteps();
            int worth = worthOfSet(set);
            for (int s = 0; s < page.sentences; s++) {
                if (worthOfSet(1 << s) > worth && mayBe(1 << s)) {
                    set = 1 << s;
                    worth = worthOfSet(set);
                }
            }
            return set;
        }

        int bestSet() {
            if (!bestKnown) {
                search.seekTop(sentencesOfWorth(), most, budget, MAX_WORTH);
                best = search.topSet;
                bestKnown = true;
            }
            return best;
        }

        // A sentence without matches only makes a set longer: none is in the best one.
        int sentencesOfWorth() {
            int set = 0;
            for (int s = 0; s < page.sentences; s++) {
                set |= matches.tallies[s] != 0 ? 1 << s : 0;
            }
            return set;
        }

        int leastBudgetFor(int worth) {
            search.seekTop(sentencesOfWorth(), most, MAX_BUDGET, worth);
            return search.topWorth < worth ? NONE : Math.max(search.topLength, MIN_BUDGET);
        }

        int lossWithout(int s) {
            int whole = worthOfSet(bestSet());
            if (!has(best, s)) {
                return 0;
            }
            search.seekTop(sentencesOfWorth() & ~(1 << s), most, budget, MAX_WORTH);
            return whole - search.topWorth;
        }

        int variety() {
            return search.largestSet();
        }

        int hundredths(int set, int other) {
            int whole = worthOfSet(other);
            return whole == 0 ? 100 : worthOfSet(set) * 100 / whole;
        }

        int exchanged(int out, int in) {
            return chosen & ~(1 << out) | 1 << in;
        }

        void seekExchange() {
            leaving = NONE;
            coming = NONE;
            surplus = 0;
            int now = worthOfSet(chosen);
            for (int out = 0; out < page.sentences; out++) {
                for (int in = 0; in < page.sentences && has(chosen, out); in++) {
                    if (!has(chosen, in)) {
                        tryExchange(out, in, now);
                    }
                }
            }
        }

        void tryExchange(int out, int in, int now) {
            int set = exchanged(out, in);
            int more = worthOfSet(set) - now;
            if (more > surplus && mayBe(set)) {
                leaving = out;
                coming = in;
                surplus = more;
            }
        }

        // How many stand ahead of a sentence tells its place.
        int ranked(int k) {
            for (int s = 0; s < page.sentences; s++) {
                if (countAhead(s) == k) {
                    return s;
                }
            }
            return NONE;
        }

        int countAhead(int s) {
            int ahead = 0;
            int worth = query.worthOf(matches.tallies[s]);
            for (int other = 0; other < page.sentences; other++) {
                int otherWorth = query.worthOf(matches.tallies[other]);
                if (otherWorth > worth || otherWorth == worth && other < s) {
                    ahead++;
                }
            }
            return ahead;
        }
    }

    /** Searches all sets of sentences of which no two have too much in common. */
    private static final class Search {
        private final Page page;
        private final Query query;
        private final Matches matches;
        // Of each sentence those that have too much in common with it.
        private final int[] tooLike = new int[MAX_SENTENCES];
        private int most;
        private int room;
        private int enough;
        int topSet;
        int topWorth;
        int topLength;
        private int largest;

        Search(Page page, Query query, Matches matches) {
            this.page = page;
            this.query = query;
            this.matches = matches;
        }

        void findTooLike(int limit) {
            for (int s = 0; s < page.sentences; s++) {
                tooLike[s] = 0;
                for (int other = 0; other < page.sentences; other++) {
                    if (other != s && page.inCommon(s, other) > limit) {
                        tooLike[s] |= 1 << other;
                    }
                }
            }
        }

        boolean areApart(int set) {
            for (int s = 0; s < page.sentences; s++) {
                if (has(set, s) && (tooLike[s] & set) != 0) {
                    return false;
                }
            }
            return true;
        }

        // The best set of size sentences at most out of some, none longer than longest. A worth
        // above highest counts as highest: so the shortest set worth that much is found too.
        void seekTop(int free, int size, int longest, int highest) {
            most = size;
            room = longest;
            enough = highest;
            topSet = 0;
            topWorth = 0;
            topLength = 0;
            extend(0, 0, 0, free, 0);
        }

        // Each round adds a sentence to the set, so that it goes no deeper than MOST.
        private void extend(int set, long tally, int length, int free, int from) {
            if (Integer.bitCount(set) >= most) {
                return;
            }
            for (int s = from; s < page.sentences; s++) {
                int longer = length + page.lengthOf(s);
                if (has(free, s) && longer <= room) {
                    int larger = set | 1 << s;
                    long sum = tally + matches.tallies[s];
                    keepIfTop(larger, Math.min(query.worthOf(sum), enough), longer);
                    extend(larger, sum, longer, free & ~tooLike[s], s + 1);
                }
            }
        }

        void keepIfTop(int set, int worth, int length) {
            boolean lighter = length < topLength || length == topLength && set < topSet;
            if (worth > topWorth || worth == topWorth && lighter) {
                topSet = set;
                topWorth = worth;
                topLength = length;
            }
        }

        // The largest set of which no two have too much in common.
        int largestSet() {
            largest = 0;
            enlarge(0, (1 << page.sentences) - 1, 0);
            return largest;
        }

        // Depth is the sentence that is looked at, so that it ends behind the last one.
        private void enlarge(int set, int free, int depth) {
            int reachable = Integer.bitCount(set) + Integer.bitCount(free);
            if (reachable < Integer.bitCount(largest)) {
                return;
            }
            if (depth >= page.sentences) {
                boolean more = reachable > Integer.bitCount(largest);
                largest = more || set < largest ? set : largest;
                return;
            }
            int rest = free & ~(1 << depth);
            if (has(free, depth)) {
                enlarge(set | 1 << depth, rest & ~tooLike[depth], depth + 1);
            }
            enlarge(set, rest, depth + 1);
        }
    }

    /** Writes passages with their marks and escapes. */
    private static final class Writer {
        private static final int STRONG = 1;
        private static final int SOFT = 2;
        private static final String LEFT_OUT = "..";
        // The longest escape for each byte, all marks round each word, the longest joints.
        private static final int MAX_WRITTEN =
                MAX_BYTES * 6 + MAX_WORDS * 21 + (MAX_SENTENCES + 1) * JOINT_SIGNS;

        private final Page page;
        private final Query query;
        private final Matches matches;
        private final Windows windows;
        // The marks over each byte of the page.
        private final int[] layers = new int[MAX_BYTES];
        final int[] bytes = new int[MAX_WRITTEN];
        int length;
        int strongBegun;
        int softBegun;

        Writer(Page page, Query query, Matches matches, Windows windows) {
            this.page = page;
            this.query = query;
            this.matches = matches;
            this.windows = windows;
        }

        void begin() {
            length = 0;
            strongBegun = 0;
            softBegun = 0;
            Arrays.fill(layers, 0);
        }

        void writeWidest(int n) {
            begin();
            windows.seekWidest(0, page.words - 1, n);
            int first = windows.first;
            int last = windows.last;
            if (first == NONE) {
                return;
            }
            layMarks(first, last);
            if (first > 0) {
                put(LEFT_OUT);
            }
            putPassage(page.wordBegin[first], page.wordEnd[last]);
            if (last < page.words - 1) {
                put(LEFT_OUT);
            }
        }

        void writeSet(int set, int n) {
            begin();
            int ahead = NONE;
            boolean openAhead = false;
            for (int s = 0; s < page.sentences; s++) {
                if (!has(set, s)) {
                    continue;
                }
                windows.seekCut(s, n);
                if (!windows.whole && windows.first == NONE) {
                    continue;
                }
                boolean openLeft = windows.first > page.sentenceFirst[s];
                boolean openRight = windows.last < page.lastWordOf(s);
                putJoint(ahead, openAhead, s, openLeft);
                layMarks(windows.first, windows.last);
                putPassage(openLeft ? page.wordBegin[windows.first] : page.sentenceBegin[s],
                        openRight ? page.wordEnd[windows.last] : page.sentenceEnd[s]);
                ahead = s;
                openAhead = openRight;
            }
            if (openAhead) {
                put(LEFT_OUT);
            }
        }

        void putJoint(int ahead, boolean openAhead, int s, boolean openLeft) {
            if (ahead == NONE) {
                put(openLeft ? LEFT_OUT : "");
            } else if (s == ahead + 1 && !openAhead && !openLeft) {
                put(" ");
            } else {
                put(" .. ");
            }
        }

        void layMarks(int first, int last) {
            for (int w = Math.max(first, 0); w <= last; w++) {
                for (int item = 0; item < query.items; item++) {
                    int end = w + query.termCounts[item] - 1;
                    if (has(matches.beginning[w], item) && end <= last) {
                        layOver(page.wordBegin[w], page.wordEnd[end], query.isStrong(item) ? STRONG : SOFT);
                    }
                }
            }
            for (int w = Math.max(first, 0); w < last; w++) {
                layBetween(w);
            }
        }

        void layOver(int begin, int end, int layer) {
            for (int i = begin; i < end; i++) {
                layers[i] |= layer;
            }
        }

        // Marks of one sort with blanks alone between them become one, within a sentence.
        void layBetween(int w) {
            int begin = page.wordEnd[w];
            int end = page.wordBegin[w + 1];
            if (page.wordSentence[w] == page.wordSentence[w + 1] && page.firstNotBlank(begin) == end) {
                layOver(begin, end, layers[begin - 1] & layers[end]);
            }
        }

        void putPassage(int begin, int end) {
            int open = 0;
            for (int i = begin; i < end; i++) {
                if (layers[i] != open) {
                    changeMarks(open, layers[i]);
                    open = layers[i];
                }
                putEscaped(page.at(i));
            }
            changeMarks(open, 0);
        }

        // A soft mark stands within a strong one, so it closes and opens again with it.
        void changeMarks(int from, int to) {
            boolean strongChanges = ((from ^ to) & STRONG) != 0;
            boolean wasSoft = (from & SOFT) != 0;
            boolean isSoft = (to & SOFT) != 0;
            if (wasSoft && (strongChanges || !isSoft)) {
                put("</t>");
            }
            if (strongChanges) {
                putStrong((to & STRONG) != 0);
            }
            if (isSoft && (strongChanges || !wasSoft)) {
                put("<t>");
                softBegun++;
            }
        }

        void putStrong(boolean begins) {
            put(begins ? "<s>" : "</s>");
            strongBegun += begins ? 1 : 0;
        }

        void putEscaped(int octet) {
            switch (octet) {
                case '<':
                    put("&lt;");
                    break;
                case '>':
                    put("&gt;");
                    break;
                case '&':
                    put("&amp;");
                    break;
                case '"':
                    put("&quot;");
                    break;
                default:
                    putByte(octet);
                    break;
            }
        }

        void put(String text) {
            for (int i = 0; i < text.length(); i++) {
                putByte(text.charAt(i));
            }
        }

        void putByte(int octet) {
            if (length < MAX_WRITTEN) {
                bytes[length] = octet;
                length++;
            }
        }
    }
}
