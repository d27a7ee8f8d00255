/** Long mixed runs of calls, each answer compared with the one that listing every circle gives. */
public final class EveryCircleTest {
    private static final int CALLS = 512;
    private static final int RUNS = 600;

    private long seed = 20261115L;

    public static void main(String[] args) {
        EveryCircleTest test = new EveryCircleTest();
        for (int run = 0; run < RUNS; run++) {
            test.run(run);
        }
        allSmallGraphs();
        Due.end();
    }

    private void run(int run) {
        int points = between(-1, 8);
        // Few different weights and times make many circles that are smallest together.
        int weights = between(0, 3) == 0 ? 21 : between(0, 3);
        int times = between(1, 6);
        int cuts = between(0, 8);
        MeanCycles x = new MeanCycles(points);
        EveryCircle due = new EveryCircle(points);
        String name = "run " + run + ", new MeanCycles(" + points + "), call ";
        for (int call = 0; call < CALLS; call++) {
            int what = between(0, 11 + cuts);
            int u = between(-1, 6);
            int v = between(-1, 6);
            ask(name + call + ": ", x, due, new int[] {what, u, v, between(-weights, weights), between(1, times)});
        }
    }

    private void ask(String name, MeanCycles x, EveryCircle due, int[] args) {
        int u = args[1];
        int v = args[2];
        String pair = "(" + u + ", " + v + ")";
        switch (args[0]) {
            case 0, 1, 2 -> Due.is(name + "arc" + pair, x.arc(u, v, args[3], args[4]), due.arc(u, v, args[3], args[4]));
            case 3 -> Due.is(name + "meanTop()", x.meanTop(), due.top(false));
            case 4 -> Due.is(name + "meanBottom()", x.meanBottom(), due.bottom(false));
            case 5 -> Due.is(name + "ratioTop()", x.ratioTop(), due.top(true));
            case 6 -> Due.is(name + "ratioBottom()", x.ratioBottom(), due.bottom(true));
            case 7 -> Due.is(name + "meanArc" + pair, x.meanArc(u, v), due.bestArc(false, u, v));
            case 8 -> Due.is(name + "ratioArc" + pair, x.ratioArc(u, v), due.bestArc(true, u, v));
            case 9 -> Due.is(name + "meanPoints()", x.meanPoints(), due.meanPoints());
            case 10 -> Due.is(name + "onCircle()", x.onCircle(), due.onCircle());
            case 11 -> {
                int p = between(0, 9) == 0 ? between(-102, 102) : due.top(true) / due.bottom(true) + between(-1, 1);
                Due.is(name + "steady(" + p + ")", x.steady(p), due.steady(p));
            }
            default -> Due.is(name + "cut" + pair, x.cut(u, v), due.cut(u, v));
        }
    }

    /** Every way to lay arcs of a few kinds, or none, between two points. */
    private static void allSmallGraphs() {
        int[] weights = {-20, -1, 0, 1, 3, 20};
        int[] times = {1, 2, 5, 1, 4, 5};
        int kinds = weights.length + 1;
        for (int graph = 0; graph < kinds * kinds * kinds * kinds; graph++) {
            MeanCycles x = new MeanCycles(2);
            EveryCircle due = new EveryCircle(2);
            int rest = graph;
            for (int pair = 0; pair < 4; pair++) {
                int kind = rest % kinds;
                rest /= kinds;
                if (kind < weights.length) {
                    x.arc(pair / 2, pair % 2, weights[kind], times[kind]);
                    due.arc(pair / 2, pair % 2, weights[kind], times[kind]);
                }
            }
            askAll("two points, graph " + graph + ": ", x, due);
        }
    }

    private static void askAll(String name, MeanCycles x, EveryCircle due) {
        Due.is(name + "meanTop()", x.meanTop(), due.top(false));
        Due.is(name + "meanBottom()", x.meanBottom(), due.bottom(false));
        Due.is(name + "ratioTop()", x.ratioTop(), due.top(true));
        Due.is(name + "ratioBottom()", x.ratioBottom(), due.bottom(true));
        Due.is(name + "meanPoints()", x.meanPoints(), due.meanPoints());
        Due.is(name + "onCircle()", x.onCircle(), due.onCircle());
        for (int pair = 0; pair < 4; pair++) {
            int u = pair / 2;
            int v = pair % 2;
            Due.is(name + "meanArc " + pair, x.meanArc(u, v), due.bestArc(false, u, v));
            Due.is(name + "ratioArc " + pair, x.ratioArc(u, v), due.bestArc(true, u, v));
        }
        for (int p = -21; p <= 21; p++) {
            Due.is(name + "steady(" + p + ")", x.steady(p), due.steady(p));
        }
    }

    /** A plain generator with a fixed seed, so that every run of the test asks the same. */
    private int between(int low, int high) {
        seed = seed * 6364136223846793005L + 1442695040888963407L;
        return low + (int) ((seed >>> 33) % (high - low + 1));
    }
}
