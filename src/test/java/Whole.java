import java.util.ArrayList;
import java.util.List;
import java.util.function.Consumer;

/**
 * All that an object answers. Asked of many new objects made alike, so that none of them is used for more
 * than the 512 calls for which the document speaks; a making has up to 220 calls of its own.
 */
final class Whole {
    /** A call, its answer as a number (true: 1). */
    interface Call {
        int of(AheadStore x);
    }

    private static final int AT_ONCE = 180;
    private static final List<Call> QUESTIONS = new ArrayList<>();
    private static final List<String> NAMES = new ArrayList<>();

    private Whole() { }

    static int flag(boolean answer) {
        return answer ? 1 : 0;
    }

    /** The call answers so, and leaves all as it was: what is told, what goes on from there, and the image. */
    static void unchanged(String name, Consumer<AheadStore> made, Call call, int want) {
        AheadStore x = new AheadStore();
        made.accept(x);
        Due.is(name, call.of(x), want);
        Consumer<AheadStore> called = made.andThen(call::of);
        same(name + " changes nothing", made, called);
        same(name + " changes nothing that shows later", made.andThen(Whole::goOn), called.andThen(Whole::goOn));
        same(name + " leaves the image", made.andThen(y -> y.image(false)), called.andThen(y -> y.image(false)));
    }

    static void refused(String name, Consumer<AheadStore> made, java.util.function.Predicate<AheadStore> call) {
        unchanged(name, made, x -> flag(call.test(x)), 0);
    }

    static void none(String name, Consumer<AheadStore> made, Call call) {
        unchanged(name, made, call, -1);
    }

    /** Two makings come to the same. */
    static void same(String name, Consumer<AheadStore> one, Consumer<AheadStore> other) {
        int[] first = answers(one);
        int[] second = answers(other);
        int alike = 0;
        while (alike < first.length && alike < second.length && first[alike] == second[alike]) {
            alike++;
        }
        boolean all = alike == first.length && alike == second.length;
        String where = alike < NAMES.size() ? NAMES.get(alike) : "the log";
        Due.yes(name + (all ? "" : " (unlike at " + where + ")"), all);
    }

    private static int[] answers(Consumer<AheadStore> made) {
        ask();
        AheadStore x = new AheadStore();
        made.accept(x);
        int end = x.look(1);
        int[] answers = new int[QUESTIONS.size() + end];
        int asked = 0;
        for (int i = 0; i < answers.length; i++) {
            if (asked == AT_ONCE) {
                x = new AheadStore();
                made.accept(x);
                asked = 0;
            }
            answers[i] = i < QUESTIONS.size() ? QUESTIONS.get(i).of(x) : x.log(i - QUESTIONS.size());
            asked++;
        }
        return answers;
    }

    private static void question(String name, Call call) {
        NAMES.add(name);
        QUESTIONS.add(call);
    }

    private static void ask() {
        if (!QUESTIONS.isEmpty()) {
            return;
        }
        each("look(", 0, 18, i -> x -> x.look(i));
        each("fault(", 0, 1, i -> x -> x.fault(i));
        each("count(", 1, 10, i -> x -> x.count(i));
        question("victim()", AheadStore::victim);
        for (int t = 1; t <= 9; t++) {
            int which = t;
            each("tx(" + t + ", ", 0, 7, i -> x -> x.tx(which, i));
        }
        for (int p = 0; p < 16; p++) {
            int which = p;
            each("page(" + p + ", ", 0, 5, i -> x -> x.page(which, i));
        }
        for (int a = 0; a < 256; a++) {
            int which = a;
            each("at(" + a + ", ", 0, 3, i -> x -> x.at(which, i));
            each("stand(" + a + ", ", 0, 2, i -> x -> x.stand(which, i));
        }
        each("would(3, 1, ", 256, 261, i -> x -> x.would(3, 1, i));
        each("would(999, 0, ", 256, 261, i -> x -> x.would(999, 0, i));
    }

    private interface Made {
        Call with(int i);
    }

    private static void each(String name, int least, int most, Made made) {
        for (int i = least; i <= most; i++) {
            question(name + i + ")", made.with(i));
        }
    }

    /** Shows what no question tells: SAVEPOINTS' and TOPS' STAMPS, when FRAMES were used, the TAPE, the plan. */
    private static void goOn(AheadStore x) {
        x.run(24);
        for (int t = 1; t <= 3; t++) {
            for (int i = 0; i < 4; i++) {
                x.act(t, 4);
            }
            for (int s = 7; s >= 0; s--) {
                x.back(t, s);
            }
        }
        x.act(8, 0);
        for (int p = 13; p < 16; p++) {
            x.write(8, 16 * p + 8, p);
        }
        x.ship(7);
        x.plan();
        x.run(24);
        x.crash(5);
        x.recover(1);
    }

    /**
     * WRITES and ADDS of transaction t at ADDRESS a, most of them gone back from, till END is there;
     * it needs a running t with less than eight savepoints.
     */
    static void grow(AheadStore x, int t, int a, int end) {
        int undone = (end - x.look(1) - 56) / 19;
        int s = x.save(t);
        for (int i = 0; i < undone; i++) {
            x.add(t, a, 1);
        }
        x.back(t, s);
        int left = end - x.look(1);
        int writes = 0;
        while (writes < 8 && (left - 9 * writes) % 8 != 0) {
            writes++;
        }
        for (int i = 0; i < writes; i++) {
            x.write(t, a, i);
        }
        for (int i = 0; i < 12 && x.look(1) < end; i++) {
            x.add(t, a, 1);
        }
        if (x.look(1) != end) {
            Due.is("END has grown", x.look(1), end);
        }
    }
}
