import java.util.function.ToIntFunction;

/** The boundary cases that promises 4 to 12 name, a part for each sentence of each promise. */
public final class AnswersBoundaryTest {
    private interface PairAsked {
        boolean of(MeanCycles x, int u, int v);
    }

    public static void main(String[] args) {
        promise4();
        promise5();
        promise6();
        promise7();
        promise8();
        promise9();
        promise10();
        promise11Range();
        promise11NoCircle();
        promise11AtLeast();
        promise12();
        askingChangesNothing();
        Due.end();
    }

    private static void promise4() {
        Due.by("Promise 4", "NONE if there is no circle.");
        answerWithoutACircle("meanTop()", MeanCycles::meanTop, -1000, -20);
        answerOfTheLightest("meanTop()", MeanCycles::meanTop, -119, 119);
    }

    private static void promise5() {
        Due.by("Promise 5", "NONE if there is no circle.");
        answerWithoutACircle("meanBottom()", MeanCycles::meanBottom, -1000, 1);
        answerOfTheLightest("meanBottom()", MeanCycles::meanBottom, 6, 6);
    }

    private static void promise6() {
        Due.by("Promise 6", "NONE if there is no circle.");
        answerWithoutACircle("ratioTop()", MeanCycles::ratioTop, -1000, -4);
        answerOfTheLightest("ratioTop()", MeanCycles::ratioTop, -119, 119);
    }

    private static void promise7() {
        Due.by("Promise 7", "NONE if there is no circle.");
        answerWithoutACircle("ratioBottom()", MeanCycles::ratioBottom, -1000, 1);
        answerOfTheLightest("ratioBottom()", MeanCycles::ratioBottom, 30, 30);
    }

    /** No arcs; all arcs but one that closes a circle; that one too; and that one cut again. */
    private static void answerWithoutACircle(String call, ToIntFunction<MeanCycles> ask, int without, int with) {
        for (int n = 1; n <= 6; n++) {
            Due.is("no arcs, n = " + n + ": " + call, ask.applyAsInt(new MeanCycles(n)), without);
            for (int u = 0; u < n; u++) {
                for (int v = 0; v <= u; v++) {
                    String name = "n = " + n + ", closed by " + u + " to " + v + ", ";
                    MeanCycles x = Graphs.upward(n, -20, 5);
                    Due.is(name + "before: " + call, ask.applyAsInt(x), without);
                    x.arc(u, v, -20, 5);
                    Due.is(name + "closed: " + call, ask.applyAsInt(x), with);
                    x.cut(u, v);
                    Due.is(name + "cut again: " + call, ask.applyAsInt(x), without);
                }
            }
        }
    }

    /** The circles of the greatest length and time, all but one of whose arcs weigh the most there is. */
    private static void answerOfTheLightest(String call, ToIntFunction<MeanCycles> ask, int light, int heavy) {
        MeanCycles x = Graphs.ring(6, -20, 5);
        x.arc(5, 0, -19, 5);
        Due.is("six arcs, the lightest but one: " + call, ask.applyAsInt(x), light);
        x = Graphs.ring(6, 20, 5);
        x.arc(5, 0, 19, 5);
        Due.is("six arcs, the heaviest but one: " + call, ask.applyAsInt(x), heavy);
    }

    private static void promise8() {
        Due.by("Promise 8", "false if there is no such arc or a number is outside 0..n-1.");
        arcAsked("meanArc", MeanCycles::meanArc);
    }

    private static void promise9() {
        Due.by("Promise 9", "false if there is no such arc or a number is outside 0..n-1.");
        arcAsked("ratioArc", MeanCycles::ratioArc);
    }

    private static void arcAsked(String call, PairAsked asked) {
        for (int n = 1; n <= 6; n++) {
            MeanCycles full = Graphs.full(n, -1, 2);
            arcInsideAndOutside("all arcs, n = " + n + ": " + call, asked, full, n, true);
            arcInsideAndOutside("no arcs, n = " + n + ": " + call, asked, new MeanCycles(n), n, false);
            arcInsideAndOutside("no circle, n = " + n + ": " + call, asked, Graphs.upward(n, -1, 2), n, false);
            longestAndShortest(call, asked, n);
            for (int pair = 0; pair < n * n; pair++) {
                int u = pair / n;
                int v = pair % n;
                MeanCycles x = Graphs.full(n, -1, 2);
                x.cut(u, v);
                Due.is("all but it, n = " + n + ": " + call + "(" + u + ", " + v + ")", asked.of(x, u, v), false);
                x.arc(u, v, -1, 2);
                Due.is("set again, n = " + n + ": " + call + "(" + u + ", " + v + ")", asked.of(x, u, v), true);
            }
        }
    }

    /** The only circle takes all points, and the least or the greatest time that it can. */
    private static void longestAndShortest(String call, PairAsked asked, int n) {
        for (int time = 1; time <= 5; time += 4) {
            MeanCycles x = Graphs.ring(n, 20, time);
            for (int pair = 0; pair < n * n; pair++) {
                int u = pair / n;
                int v = pair % n;
                String name = "ring of " + n + ", time " + time + ": " + call + "(" + u + ", " + v + ")";
                Due.is(name, asked.of(x, u, v), v == (u + 1) % n);
            }
        }
    }

    private static void arcInsideAndOutside(String call, PairAsked asked, MeanCycles x, int n, boolean inside) {
        for (int pair = 0; pair < n * n; pair++) {
            int u = pair / n;
            int v = pair % n;
            Due.is(call + "(" + u + ", " + v + ")", asked.of(x, u, v), inside);
        }
        for (int out : Outside.ofPoints(n)) {
            Due.is(call + "(" + out + ", 0)", asked.of(x, out, 0), false);
            Due.is(call + "(n - 1, " + out + ")", asked.of(x, n - 1, out), false);
            Due.is(call + "(" + out + ", " + out + ")", asked.of(x, out, out), false);
        }
        // Outside numbers that, taken together, would point at an arc.
        Due.is(call + "(1, -1)", asked.of(x, 1, -1), false);
        Due.is(call + "(-1, 6)", asked.of(x, -1, 6), false);
        Due.is(call + "(0, 6)", asked.of(x, 0, 6), false);
    }

    private static void promise10() {
        Due.by("Promise 10", "0 if there is no circle.");
        for (int n = 1; n <= 6; n++) {
            Due.is("no arcs, n = " + n + ": meanPoints()", new MeanCycles(n).meanPoints(), 0);
            for (int u = 0; u < n; u++) {
                MeanCycles x = Graphs.upward(n, -20, 1);
                Due.is("no circle, n = " + n + ": meanPoints()", x.meanPoints(), 0);
                x.arc(u, u, 20, 1);
                Due.is("only a loop at " + u + ", n = " + n + ": meanPoints()", x.meanPoints(), 1 << u);
                x.cut(u, u);
                Due.is("the loop cut, n = " + n + ": meanPoints()", x.meanPoints(), 0);
            }
            Due.is("all, n = " + n + ": meanPoints()", Graphs.full(n, 20, 1).meanPoints(), (1 << n) - 1);
        }
        for (int set = 0; set < 64; set++) {
            MeanCycles x = new MeanCycles(6);
            for (int u = 0; u < 6; u++) {
                // Those not in the set have a loop too, one step heavier.
                x.arc(u, u, (set >> u & 1) == 1 ? 19 : 20, 1);
            }
            Due.is("loops, lighter in " + set + ": meanPoints()", x.meanPoints(), set == 0 ? 63 : set);
        }
    }

    private static void promise11Range() {
        Due.by("Promise 11", "p any int from -100 to 100; false outside");
        MeanCycles none = new MeanCycles(6);
        MeanCycles light = Graphs.full(6, -20, 1);
        MeanCycles heavy = Graphs.full(6, 20, 1);
        for (int p = -100; p <= 100; p++) {
            Due.is("no circle: steady(" + p + ")", none.steady(p), true);
            Due.is("ratio -20: steady(" + p + ")", light.steady(p), p <= -20);
            Due.is("ratio 20: steady(" + p + ")", heavy.steady(p), p <= 20);
        }
        for (int p : Outside.of(-100, 100)) {
            Due.is("no circle: steady(" + p + ")", none.steady(p), false);
            Due.is("ratio -20: steady(" + p + ")", light.steady(p), false);
            Due.is("ratio 20: steady(" + p + ")", heavy.steady(p), false);
        }
    }

    private static void promise11NoCircle() {
        Due.by("Promise 11", "Whether every circle has a weight of at least p times its time");
        for (int n = 1; n <= 6; n++) {
            MeanCycles x = Graphs.upward(n, -20, 1);
            Due.is("no circle, n = " + n + ": steady(100)", x.steady(100), true);
            x.arc(n - 1, n - 1, 20, 1);
            Due.is("a loop, n = " + n + ": steady(100)", x.steady(100), false);
            Due.is("a loop, n = " + n + ": steady(21)", x.steady(21), false);
            Due.is("a loop, n = " + n + ": steady(20)", x.steady(20), true);
            x.cut(n - 1, n - 1);
            Due.is("cut again, n = " + n + ": steady(100)", x.steady(100), true);
        }
    }

    private static void promise11AtLeast() {
        Due.by("Promise 11", "a weight of at least p times its time");
        for (int n = 1; n <= 6; n++) {
            for (int time = n; time <= 5 * n; time++) {
                for (int p = -20; p <= 20; p++) {
                    for (int weight = p * time - 1; weight <= p * time + 1; weight++) {
                        if (weight >= -20 * n && weight <= 20 * n) {
                            MeanCycles x = Graphs.ringOfSums(n, weight, time);
                            String name = "ring of " + n + ", weight " + weight + ", time " + time;
                            Due.is(name + ": steady(" + p + ")", x.steady(p), weight >= p * time);
                        }
                    }
                }
            }
        }
    }

    private static void promise12() {
        Due.by("Promise 12", "The points that are on some circle, as a set.");
        for (int n = 1; n <= 6; n++) {
            Due.is("no arcs, n = " + n + ": onCircle()", new MeanCycles(n).onCircle(), 0);
            Due.is("no circle, n = " + n + ": onCircle()", Graphs.upward(n, 20, 5).onCircle(), 0);
            Due.is("all arcs, n = " + n + ": onCircle()", Graphs.full(n, 20, 5).onCircle(), (1 << n) - 1);
            for (int u = 0; u < n; u++) {
                for (int v = 0; v <= u; v++) {
                    MeanCycles x = Graphs.upward(n, 20, 5);
                    x.arc(u, v, 20, 5);
                    // The circles go up from v to u: the points between them are on one, no others.
                    int between = (1 << (u + 1)) - (1 << v);
                    Due.is("n = " + n + ", closed by " + u + " to " + v + ": onCircle()", x.onCircle(), between);
                }
            }
        }
        for (int set = 0; set < 64; set++) {
            MeanCycles x = Graphs.upward(6, -20, 1);
            for (int u = 0; u < 6; u++) {
                if ((set >> u & 1) == 1) {
                    x.arc(u, u, u, 1);
                }
            }
            Due.is("loops in " + set + ": onCircle()", x.onCircle(), set);
        }
    }

    private static void askingChangesNothing() {
        Due.by("Promises 4 to 12", "state changes described above");
        for (State state : new State[] {new State(() -> new MeanCycles(1)), new State(Graphs::mixed),
            new State(() -> Graphs.upward(6, -20, 1)), new State(() -> Graphs.full(6, 20, 5))}) {
            state.staysAfter("meanTop()", x -> x.meanTop() == 0);
            state.staysAfter("meanBottom()", x -> x.meanBottom() == 0);
            state.staysAfter("ratioTop()", x -> x.ratioTop() == 0);
            state.staysAfter("ratioBottom()", x -> x.ratioBottom() == 0);
            state.staysAfter("meanPoints()", x -> x.meanPoints() == 0);
            state.staysAfter("onCircle()", x -> x.onCircle() == 0);
            state.staysAfter("meanArc(0, 0)", x -> x.meanArc(0, 0));
            state.staysAfter("ratioArc(0, 0)", x -> x.ratioArc(0, 0));
            state.staysAfter("steady(-100)", x -> x.steady(-100));
            state.staysAfter("steady(100)", x -> x.steady(100));
            for (int out : Outside.ofPoints(6)) {
                state.refuses("meanArc(" + out + ", 0)", x -> x.meanArc(out, 0));
                state.refuses("ratioArc(0, " + out + ")", x -> x.ratioArc(0, out));
            }
            for (int out : Outside.of(-100, 100)) {
                state.refuses("steady(" + out + ")", x -> x.steady(out));
            }
        }
    }
}
