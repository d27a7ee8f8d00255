import java.util.List;
import java.util.function.Supplier;

/** The boundary cases that promises 1 to 3 name, a part for each sentence. */
public final class ChangesBoundaryTest {
    private static final int LOW = Integer.MIN_VALUE;
    private static final int HIGH = Integer.MAX_VALUE;

    public static void main(String[] args) {
        promise1();
        promise2Points();
        promise2WeightAndTime();
        promise2ElseTrue();
        promise2Refused();
        promise3Points();
        promise3None();
        promise3ElseTrue();
        Due.end();
    }

    private static void promise1() {
        Due.by("Promise 1", "n is points clamped into 1..6; no arcs.");
        for (int points : Outside.of(1, 6)) {
            isNewOf(points, points < 1 ? 1 : 6);
        }
        for (int points = 1; points <= 6; points++) {
            isNewOf(points, points);
        }
    }

    private static void isNewOf(int points, int n) {
        String made = "new MeanCycles(" + points + "): ";
        MeanCycles x = new MeanCycles(points);
        for (int u = -1; u <= 7; u++) {
            for (int v = -1; v <= 7; v++) {
                Due.is(made + "cut(" + u + ", " + v + ")", x.cut(u, v), false);
            }
        }
        Due.is(made + "meanTop()", x.meanTop(), MeanCycles.NONE);
        Due.is(made + "ratioBottom()", x.ratioBottom(), MeanCycles.NONE);
        Due.is(made + "onCircle()", x.onCircle(), 0);
        Due.is(made + "meanPoints()", x.meanPoints(), 0);
        Due.is(made + "steady(100)", x.steady(100), true);
        for (int u = -1; u <= 7; u++) {
            Due.is(made + "arc(" + u + ", 0, 1, 1)", x.arc(u, 0, 1, 1), u >= 0 && u < n);
            Due.is(made + "arc(0, " + u + ", 1, 1)", x.arc(0, u, 1, 1), u >= 0 && u < n);
        }
        Due.is(made + "onCircle() of all", x.onCircle(), (1 << n) - 1);
    }

    private static void promise2Points() {
        Due.by("Promise 2", "u or v outside 0..n-1 .. : refused, answers false.");
        for (int n = 1; n <= 6; n++) {
            int points = n;
            State empty = new State(() -> new MeanCycles(points));
            State full = new State(() -> Graphs.full(points, 2, 3));
            for (int out : Outside.ofPoints(n)) {
                refusesArc(empty, "no arcs, n = " + n, out, 0, -9, 1);
                refusesArc(empty, "no arcs, n = " + n, n - 1, out, -9, 1);
                refusesArc(full, "all arcs, n = " + n, out, n - 1, -9, 1);
                refusesArc(full, "all arcs, n = " + n, 0, out, -9, 1);
                refusesArc(full, "all arcs, n = " + n, out, out, -9, 1);
            }
        }
    }

    private static void promise2WeightAndTime() {
        Due.by("Promise 2", "weight outside -20..20 or time outside 1..5: refused, answers false.");
        for (Supplier<MeanCycles> make : someObjects()) {
            State state = new State(make);
            for (int weight : Outside.of(-20, 20)) {
                refusesArc(state, "0 to 1", 0, 1, weight, 1);
                refusesArc(state, "2 to 2", 2, 2, weight, 5);
            }
            for (int time : Outside.of(1, 5)) {
                refusesArc(state, "0 to 1", 0, 1, -20, time);
                refusesArc(state, "2 to 2", 2, 2, 20, time);
            }
        }
    }

    private static void promise2ElseTrue() {
        Due.by("Promise 2", "Sets the arc from u to v. .. Else true.");
        int[] weights = {-20, -19, 0, 19, 20};
        int[] times = {1, 2, 4, 5};
        for (int n = 1; n <= 6; n++) {
            MeanCycles x = new MeanCycles(n);
            for (int weight : weights) {
                for (int time : times) {
                    String name = "n = " + n + ", weight " + weight + ", time " + time + ": ";
                    Due.is(name + "first point", x.arc(0, 0, weight, time), true);
                    Due.is(name + "last point", x.arc(n - 1, n - 1, weight, time), true);
                    Due.is(name + "first to last", x.arc(0, n - 1, weight, time), true);
                    Due.is(name + "last to first", x.arc(n - 1, 0, weight, time), true);
                    Due.is(name + "meanTop()", x.meanTop(), weight);
                    Due.is(name + "steady", x.steady(Math.floorDiv(weight, time)), true);
                    Due.is(name + "steady, one more", x.steady(Math.floorDiv(weight, time) + 1), false);
                }
            }
        }
    }

    private static void promise2Refused() {
        Due.by("Promise 2", "refused, answers false");
        for (Supplier<MeanCycles> make : someObjects()) {
            State state = new State(make);
            // More than one thing wrong, and things wrong that together would point into the room kept.
            refusesArc(state, "all wrong", LOW, LOW, LOW, LOW);
            refusesArc(state, "all wrong", HIGH, HIGH, HIGH, HIGH);
            refusesArc(state, "points wrong", 1, -1, 0, 1);
            refusesArc(state, "points wrong", -1, 6, 0, 1);
            refusesArc(state, "points wrong", -1, 11, 0, 1);
            refusesArc(state, "points wrong", 0, 6, 0, 1);
            refusesArc(state, "weight and time wrong", 0, 1, 21, 0);
            refusesArc(state, "weight and time wrong", 0, 1, -21, 6);
            refusesArc(state, "weight wrong, lighter", 0, 1, -21, 2);
            refusesArc(state, "time wrong, slower", 1, 0, 4, 6);
        }
    }

    private static void promise3Points() {
        Due.by("Promise 3", "u or v outside 0..n-1 .. : refused, answers false.");
        for (int n = 1; n <= 6; n++) {
            int points = n;
            State empty = new State(() -> new MeanCycles(points));
            State full = new State(() -> Graphs.full(points, 2, 3));
            for (int out : Outside.ofPoints(n)) {
                refusesCut(empty, "no arcs, n = " + n, out, 0);
                refusesCut(full, "all arcs, n = " + n, out, 0);
                refusesCut(full, "all arcs, n = " + n, n - 1, out);
                refusesCut(full, "all arcs, n = " + n, out, out);
            }
            refusesCut(full, "all arcs, n = " + n, 1, -1);
            refusesCut(full, "all arcs, n = " + n, -1, 6);
        }
    }

    private static void promise3None() {
        Due.by("Promise 3", "or there is none: refused, answers false");
        for (int n = 1; n <= 6; n++) {
            int points = n;
            State empty = new State(() -> new MeanCycles(points));
            State upward = new State(() -> Graphs.upward(points, -4, 3));
            for (int u = 0; u < n; u++) {
                for (int v = 0; v <= u; v++) {
                    refusesCut(empty, "no arcs, n = " + n, u, v);
                    refusesCut(upward, "arcs upward only, n = " + n, u, v);
                    int from = u;
                    int to = v;
                    refusesCut(new State(() -> fullWithout(points, from, to)), "cut before, n = " + n, u, v);
                }
            }
        }
    }

    private static void promise3ElseTrue() {
        Due.by("Promise 3", "Takes the arc from u to v away. .. Else true.");
        for (int n = 1; n <= 6; n++) {
            MeanCycles x = Graphs.full(n, -4, 3);
            for (int pair = 0; pair < n * n; pair++) {
                int u = pair / n;
                int v = pair % n;
                String name = "n = " + n + ", " + u + " to " + v + ": ";
                Due.is(name + "meanArc before", x.meanArc(u, v), isLeftOnCircle(u, v));
                Due.is(name + "cut", x.cut(u, v), true);
                Due.is(name + "cut again", x.cut(u, v), false);
                Due.is(name + "meanArc after", x.meanArc(u, v), false);
                Due.is(name + "ratioArc after", x.ratioArc(u, v), false);
            }
            Due.is("n = " + n + ", all cut: meanTop()", x.meanTop(), MeanCycles.NONE);
            Due.is("n = " + n + ", all cut: onCircle()", x.onCircle(), 0);
            Due.is("n = " + n + ", set after all cut: arc", x.arc(n - 1, n - 1, 20, 5), true);
            Due.is("n = " + n + ", set after all cut: ratioTop()", x.ratioTop(), 4);
            Due.is("n = " + n + ", set after all cut: onCircle()", x.onCircle(), 1 << (n - 1));
        }
    }

    /** With the arcs before u to v cut, in order: those to a point below u lead to no arc back. */
    private static boolean isLeftOnCircle(int u, int v) {
        return v >= u;
    }

    private static MeanCycles fullWithout(int n, int u, int v) {
        MeanCycles x = Graphs.full(n, -4, 3);
        x.cut(u, v);
        return x;
    }

    private static List<Supplier<MeanCycles>> someObjects() {
        return List.of(
                () -> new MeanCycles(3),
                Graphs::mixed,
                () -> Graphs.upward(3, -4, 3),
                () -> Graphs.full(3, 20, 5),
                () -> Graphs.full(6, -20, 1));
    }

    private static void refusesArc(State state, String what, int u, int v, int weight, int time) {
        String call = "arc(" + u + ", " + v + ", " + weight + ", " + time + ")";
        state.refuses(what + ": " + call, x -> x.arc(u, v, weight, time));
    }

    private static void refusesCut(State state, String what, int u, int v) {
        state.refuses(what + ": cut(" + u + ", " + v + ")", x -> x.cut(u, v));
    }
}
