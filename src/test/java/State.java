import java.util.ArrayList;
import java.util.List;
import java.util.function.Consumer;
import java.util.function.IntConsumer;
import java.util.function.ToIntFunction;

/**
 * All that can be asked of an object, as a text: so it is seen whether a call has changed anything. The questions are
 * put to several objects on which the same calls were made, so that none is used for more than 512 calls.
 */
final class State {
    private static final int QUESTIONS = 250;

    private State() {
    }

    /** The state behind some calls; what they throw is left aside. */
    static String behind(Consumer<PassagePicker> calls) {
        List<ToIntFunction<PassagePicker>> questions = questions(made(calls));
        StringBuilder all = new StringBuilder();
        PassagePicker picker = null;
        for (int k = 0; k < questions.size(); k++) {
            if (k % QUESTIONS == 0) {
                picker = made(calls);
            }
            PassagePicker asked = picker;
            ToIntFunction<PassagePicker> question = questions.get(k);
            all.append(Check.answer(() -> question.applyAsInt(asked))).append(' ');
        }
        return all + "tape " + tape(calls);
    }

    /** Some calls more change nothing. */
    static void unchanged(String what, Consumer<PassagePicker> calls, Consumer<PassagePicker> more) {
        Check.equal(what + " changes nothing: the state", behind(calls.andThen(quietly(more))), behind(calls));
    }

    /** A call throws just this, and changes nothing. */
    static void refused(String what, Class<? extends RuntimeException> due, Consumer<PassagePicker> calls,
            ToIntFunction<PassagePicker> call) {
        PassagePicker picker = made(calls);
        Check.throwing(what, due, () -> call.applyAsInt(picker));
        unchanged(what, calls, call::applyAsInt);
    }

    static Consumer<PassagePicker> quietly(Consumer<PassagePicker> calls) {
        return picker -> {
            try {
                calls.accept(picker);
            } catch (RuntimeException thrown) {
                return;
            }
        };
    }

    private static PassagePicker made(Consumer<PassagePicker> calls) {
        PassagePicker picker = new PassagePicker();
        calls.accept(picker);
        return picker;
    }

    // How much the tape has, and what, as the page that it would be.
    private static String tape(Consumer<PassagePicker> calls) {
        PassagePicker other = made(calls);
        other.page();
        StringBuilder all = new StringBuilder().append(tapeLength(made(calls)));
        for (int w = 0; w < other.count(2); w++) {
            all.append(' ').append(other.word(w, 0)).append(' ').append(other.word(w, 1));
            all.append(' ').append(other.word(w, 5));
        }
        for (int s = 0; s < other.count(3); s++) {
            all.append(' ').append(other.sentence(s, 0)).append(' ').append(other.sentence(s, 1));
        }
        return all.toString();
    }

    private static int tapeLength(PassagePicker picker) {
        int fed = picker.feed(0, 0, 0, 0, 0);
        if (fed != PassagePicker.NONE) {
            return fed - 20;
        }
        int n = 600;
        while (n > 580 && !picker.end(n)) {
            n--;
        }
        return n;
    }

    private static List<ToIntFunction<PassagePicker>> questions(PassagePicker picker) {
        List<ToIntFunction<PassagePicker>> all = new ArrayList<>();
        all.add(PassagePicker::fault);
        each(15, what -> all.add(p -> p.count(what)));
        each(picker.count(12) + 1, k -> all.add(p -> p.octet(k)));
        all.add(p -> p.marks(true));
        all.add(p -> p.marks(false));
        each(picker.count(1) + 1, k -> all.add(p -> p.sign(k)));
        each(picker.count(2) * 6, k -> all.add(p -> p.word(k / 6, k % 6)));
        each(picker.count(3) * 11, k -> all.add(p -> p.sentence(k / 11, k % 11)));
        each(picker.count(4) * 5, k -> all.add(p -> p.item(k / 5, k % 5)));
        each(picker.count(5) * 3, k -> all.add(p -> p.match(k / 3, k % 3)));
        int items = (1 << picker.count(4)) - 1;
        each(3, what -> all.add(p -> p.least(items, what)));
        each(4, what -> all.add(p -> p.widest(600, what)));
        each(7, k -> all.add(p -> p.step(k)));
        each(15, k -> all.add(p -> p.rank(k)));
        each(picker.count(3), s -> all.add(p -> p.loss(s)));
        all.add(p -> p.choice(true));
        all.add(p -> p.choice(false));
        each(3, what -> all.add(p -> p.exchange(what)));
        all.add(p -> p.need(1));
        all.add(p -> p.need(100));
        return all;
    }

    private static void each(int size, IntConsumer give) {
        for (int k = 0; k < size; k++) {
            give.accept(k);
        }
    }
}
