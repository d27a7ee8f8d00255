import java.util.function.Predicate;
import java.util.function.Supplier;

/**
 * All that the face can tell of an object: every answer it gives, and of every arc what it answers
 * when it is the only one left, so that arcs on no circle are seen too.
 */
final class State {
    private static final int MOST_POINTS = 6;

    private final Supplier<MeanCycles> make;
    private final String before;

    /** Made anew for each look, as looking at the arcs changes the object. */
    State(Supplier<MeanCycles> make) {
        this.make = make;
        this.before = of(make);
    }

    /** A call that must answer false and leave everything as it was. */
    void refuses(String name, Predicate<MeanCycles> call) {
        Due.is(name, call.test(make.get()), false);
        Due.is(name + " leaves everything as it was", of(after(call)).equals(before), true);
    }

    /** A call that must leave everything as it was, whatever it answers. */
    void staysAfter(String name, Predicate<MeanCycles> call) {
        Due.is(name + " leaves everything as it was", of(after(call)).equals(before), true);
    }

    private Supplier<MeanCycles> after(Predicate<MeanCycles> call) {
        return () -> {
            MeanCycles x = make.get();
            call.test(x);
            return x;
        };
    }

    static String of(Supplier<MeanCycles> make) {
        StringBuilder text = new StringBuilder();
        answers(text, make.get());
        for (int u = 0; u < MOST_POINTS; u++) {
            for (int v = 0; v < MOST_POINTS; v++) {
                arcAlone(text, make.get(), u, v);
            }
        }
        return text.toString();
    }

    private static void answers(StringBuilder text, MeanCycles x) {
        fractions(text, x);
        text.append(x.meanPoints()).append(' ').append(x.onCircle()).append(' ');
        for (int u = 0; u < MOST_POINTS; u++) {
            for (int v = 0; v < MOST_POINTS; v++) {
                text.append(x.meanArc(u, v)).append(' ').append(x.ratioArc(u, v)).append(' ');
            }
        }
        for (int p = -21; p <= 21; p++) {
            text.append(x.steady(p)).append(' ');
        }
    }

    private static void arcAlone(StringBuilder text, MeanCycles x, int u, int v) {
        for (int pair = 0; pair < MOST_POINTS * MOST_POINTS; pair++) {
            if (pair != u * MOST_POINTS + v) {
                x.cut(pair / MOST_POINTS, pair % MOST_POINTS);
            }
        }
        // Two ways back, as a circle of weight 0 does not show its time.
        for (int back = 0; back <= 1; back++) {
            if (u != v) {
                x.arc(v, u, back, 1);
            }
            fractions(text, x);
        }
        text.append(x.cut(u, v)).append(' ');
    }

    private static void fractions(StringBuilder text, MeanCycles x) {
        text.append(x.meanTop()).append('/').append(x.meanBottom()).append(' ');
        text.append(x.ratioTop()).append('/').append(x.ratioBottom()).append(' ');
    }
}
