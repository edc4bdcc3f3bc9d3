import java.lang.reflect.Method;
import java.util.ArrayList;
import java.util.HashMap;
import java.util.List;
import java.util.Map;
import java.util.function.LongConsumer;
import java.util.function.Supplier;

/**
 * Objects made alike, of which one is asked one call more: what is asked of both behind that must be answered alike,
 * if that call has changed nothing. Each group of questions has an object of its own, so that none is used for more
 * than 512 calls, and that groups may change what they ask about.
 */
final class Twin {
    private static final int SITTERS = 8, RESTS = 7, HOURS = 24, SHELVES = 6, PLACES = 60;
    private static final int SEED = 4711;
    private static final Map<String, Method> CALLS = new HashMap<>();

    static {
        for (Method m : TwoElbows.class.getDeclaredMethods()) {
            if (java.lang.reflect.Modifier.isPublic(m.getModifiers())) CALLS.put(m.getName(), m);
        }
    }

    private interface Group {
        void ask(TwoElbows x, LongConsumer answers);
    }

    private static final List<Group> GROUPS = List.of(Twin::ofSitters, Twin::ofRests, Twin::ledEarly, Twin::ledLate,
        Twin::onShelves, Twin::inThought, Twin::toldHours, Twin::undone, Twin::doneAgain, Twin::laidBack, Twin::goneOn,
        Twin::tapeTold, Twin::sold, Twin::acted, Twin::moreSitters);

    private final Map<Supplier<TwoElbows>, List<List<Long>>> without = new HashMap<>();

    /** What the call answers, by its name. */
    static long ask(TwoElbows x, String name, long... a) {
        Method m = CALLS.get(name);
        Object[] arguments = new Object[a.length];
        for (int k = 0; k < a.length; k++) {
            if (m.getParameterTypes()[k] == long.class) arguments[k] = a[k];
            else arguments[k] = (int) a[k];
        }
        try {
            return ((Number) m.invoke(x, arguments)).longValue();
        } catch (ReflectiveOperationException thrown) {
            throw new IllegalStateException(name, thrown);
        }
    }

    /** How many groups of questions are answered otherwise behind the call than without it. */
    int changes(Supplier<TwoElbows> made, String name, long... a) {
        List<List<Long>> due = without.computeIfAbsent(made, m -> {
            List<List<Long>> all = new ArrayList<>();
            for (Group group : GROUPS) all.add(answers(m.get(), group));
            return all;
        });
        int changes = 0;
        for (int g = 0; g < GROUPS.size(); g++) {
            TwoElbows x = made.get();
            ask(x, name, a);
            if (!answers(x, GROUPS.get(g)).equals(due.get(g))) changes++;
        }
        return changes;
    }

    private static List<Long> answers(TwoElbows x, Group group) {
        List<Long> all = new ArrayList<>();
        group.ask(x, all::add);
        return all;
    }

    private static void ofSitters(TwoElbows x, LongConsumer answers) {
        for (int s = 0; s < SITTERS; s++) {
            for (int what = 0; what < 8; what++) answers.accept(x.of(s, what));
            for (int hour = 0; hour < HOURS; hour++) answers.accept(x.of(s, 100 + hour));
        }
    }

    private static void ofRests(TwoElbows x, LongConsumer answers) {
        for (int rest = 0; rest < RESTS; rest++) {
            for (int what = 0; what < 5; what++) answers.accept(x.rest(rest, what));
        }
        for (int what = 0; what < 8; what++) answers.accept(x.count(what));
        for (int i = 0; i < 25; i++) answers.accept(x.trace(i));
    }

    private static void ledEarly(TwoElbows x, LongConsumer answers) {
        ledFromTo(x, 0, 12, answers);
    }

    private static void ledLate(TwoElbows x, LongConsumer answers) {
        ledFromTo(x, 12, HOURS, answers);
    }

    private static void ledFromTo(TwoElbows x, int from, int to, LongConsumer answers) {
        for (int hour = from; hour < to; hour++) {
            for (int rest = 0; rest < RESTS; rest++) {
                for (int what = 0; what < 3; what++) answers.accept(x.led(10 * hour + rest, what));
            }
        }
    }

    private static void onShelves(TwoElbows x, LongConsumer answers) {
        for (int shelf = 0; shelf < SHELVES; shelf++) {
            answers.accept(x.taken(shelf, 0));
            for (int i = 0; i < PLACES; i++) {
                if (x.element(shelf, i) == Long.MIN_VALUE) break;
                answers.accept(x.element(shelf, i));
            }
        }
    }

    private static void inThought(TwoElbows x, LongConsumer answers) {
        for (int s = 0; s < SITTERS; s++) {
            answers.accept(x.seat(SEED, s));
            for (int rest = s - 1; rest <= s; rest++) answers.accept(x.strength(s, rest, 50));
        }
        for (int rest = 0; rest < RESTS; rest++) {
            answers.accept(x.wider(SEED, rest));
            for (int what = 0; what < 2; what++) answers.accept(x.both(rest, what));
            for (int what = 0; what < 3; what++) answers.accept(x.deals(rest, what));
        }
        for (int k = 0; k < HOURS; k++) answers.accept(x.then(SEED, k, -1, 0));
        answers.accept(x.quiet(SEED));
        answers.accept(x.change(SEED));
    }

    private static void toldHours(TwoElbows x, LongConsumer answers) {
        for (int shelf = 0; shelf < SHELVES; shelf++) {
            for (int rest = 0; rest < RESTS; rest++) answers.accept(x.judge(shelf, rest));
        }
        answers.accept(x.match());
    }

    private static void undone(TwoElbows x, LongConsumer answers) {
        for (int k = 0; k < 41; k++) answers.accept(x.undo());
        traits(x, answers);
    }

    private static void doneAgain(TwoElbows x, LongConsumer answers) {
        for (int k = 0; k < 41; k++) answers.accept(x.redo());
        traits(x, answers);
    }

    private static void traits(TwoElbows x, LongConsumer answers) {
        for (int s = 0; s < SITTERS; s++) {
            for (int what = 0; what < 5; what++) answers.accept(x.of(s, what));
        }
    }

    private static void laidBack(TwoElbows x, LongConsumer answers) {
        answers.accept(x.back());
        ofRests(x, answers);
        for (int s = 0; s < SITTERS; s++) {
            for (int what = 5; what < 8; what++) answers.accept(x.of(s, what));
        }
        answers.accept(x.go(SEED, 1));
        ofRests(x, answers);
    }

    private static void goneOn(TwoElbows x, LongConsumer answers) {
        for (int k = 0; k < HOURS; k++) answers.accept(x.go(SEED + k, 1));
        ofRests(x, answers);
        for (int s = 0; s < SITTERS; s++) {
            for (int what = 5; what < 8; what++) answers.accept(x.of(s, what));
        }
    }

    private static void tapeTold(TwoElbows x, LongConsumer answers) {
        answers.accept(x.law());
        for (int s = 0; s < SITTERS; s++) {
            for (int rest = s - 1; rest <= s; rest++) answers.accept(x.strength(s, rest, 50));
        }
        answers.accept(x.feed('p'));
    }

    private static void sold(TwoElbows x, LongConsumer answers) {
        for (int rest = 0; rest < RESTS; rest++) answers.accept(x.sell(rest));
        ofRests(x, answers);
    }

    private static void acted(TwoElbows x, LongConsumer answers) {
        for (int body = 0; body < 51; body++) {
            for (int act = 0; act < 4; act++) answers.accept(x.act(body, act, 5));
        }
        answers.accept(x.body(7));
    }

    private static void moreSitters(TwoElbows x, LongConsumer answers) {
        for (int shelf = 0; shelf < SHELVES; shelf++) answers.accept(x.sitters(shelf, 0, 1));
        answers.accept(x.sitter(123));
        ofRests(x, answers);
    }
}
