import java.util.function.Predicate;

/** The boundary cases of the number of calls ('What it is') and of LANGUAGE.md's rule 7. */
public final class CallsBoundaryTest {
    private static final int CALLS = 512;
    private static final int[] ANY_INT = {Integer.MIN_VALUE, Integer.MIN_VALUE + 1, -715827883, -1001, -1000,
        -101, -100, -36, -21, -20, -7, -6, -1, 0, 1, 2, 3, 4, 5, 6, 7, 20, 21, 31, 32, 35, 36, 100, 101, 1116,
        715827883, Integer.MAX_VALUE - 1, Integer.MAX_VALUE};
    private static final int[] FEW_INTS = {Integer.MIN_VALUE, -21, -20, -1, 0, 1, 5, 6, 20, 21, Integer.MAX_VALUE};
    private static final long MOST_MILLIS = 120000;

    public static void main(String[] args) throws InterruptedException {
        atMost512Calls();
        all512Change();
        neverThrowsAndAlwaysEnds();
        Due.end();
    }

    private static void atMost512Calls() {
        Due.by("What it is", "An object is used for at most 512 calls after it has been made");
        for (int last : new int[] {1, 2, CALLS - 1, CALLS}) {
            lastCall(last, "arc(0, 0, -7, 2)", x -> x.arc(0, 0, -7, 2), true);
            lastCall(last, "arc(0, 0, -21, 2)", x -> x.arc(0, 0, -21, 2), false);
            lastCall(last, "cut(0, 0)", x -> x.cut(0, 0), last > 1);
            lastCall(last, "cut(0, 1)", x -> x.cut(0, 1), false);
            lastCall(last, "meanTop()", x -> x.meanTop() == (last > 1 ? -7 : MeanCycles.NONE), true);
            lastCall(last, "meanBottom()", x -> x.meanBottom() == (last > 1 ? 1 : MeanCycles.NONE), true);
            lastCall(last, "ratioTop()", x -> x.ratioTop() == (last > 1 ? -7 : MeanCycles.NONE), true);
            lastCall(last, "ratioBottom()", x -> x.ratioBottom() == (last > 1 ? 2 : MeanCycles.NONE), true);
            lastCall(last, "meanArc(0, 0)", x -> x.meanArc(0, 0), last > 1);
            lastCall(last, "ratioArc(0, 0)", x -> x.ratioArc(0, 0), last > 1);
            lastCall(last, "meanPoints()", x -> x.meanPoints() == (last > 1 ? 1 : 0), true);
            lastCall(last, "steady(-4)", x -> x.steady(-4), true);
            lastCall(last, "steady(-3)", x -> x.steady(-3), last == 1);
            lastCall(last, "onCircle()", x -> x.onCircle() == (last > 1 ? 1 : 0), true);
        }
    }

    /** The call before the last sets the arc that it is about; those before that are of each sort in turn. */
    private static void lastCall(int last, String name, Predicate<MeanCycles> call, boolean want) {
        for (int sort = 0; sort < 3; sort++) {
            MeanCycles x = new MeanCycles(6);
            for (int before = 1; before < last - 1; before++) {
                use(x, sort, before);
            }
            if (last > 1) {
                x.arc(0, 0, -7, 2);
            }
            Due.is("call " + last + " after calls of sort " + sort + ": " + name, call.test(x), want);
        }
    }

    private static void use(MeanCycles x, int sort, int call) {
        if (sort == 0) {
            x.onCircle();
        } else if (sort == 1) {
            x.arc(0, 6, -20, 1);
        } else if (call % 2 == 1) {
            x.arc(call / 2 % 6, 5, 20, 5);
        } else {
            x.cut((call / 2 - 1) % 6, 5);
        }
    }

    private static void all512Change() {
        MeanCycles x = new MeanCycles(6);
        for (int call = 1; call <= CALLS - 2; call++) {
            Due.is("arc, call " + call, x.arc(call % 6, call / 6 % 6, call % 41 - 20, call % 5 + 1), true);
        }
        Due.is("arc, call 511", x.arc(3, 3, -20, 5), true);
        Due.is("meanTop(), call 512", x.meanTop(), -20);
        x = Graphs.full(6, 20, 5);
        for (int call = 37; call <= CALLS; call++) {
            int pair = (call - 37) % 36;
            Due.is("cut, call " + call, x.cut(pair / 6, pair % 6), call <= 72);
        }
    }

    private static void neverThrowsAndAlwaysEnds() throws InterruptedException {
        Due.by("LANGUAGE.md, rule 7", "No call may ever throw or fail to end, for any arguments in any state");
        boolean[] ended = new boolean[1];
        Throwable[] thrown = new Throwable[1];
        Thread calls = new Thread(() -> {
            askAnything();
            ended[0] = true;
        });
        calls.setDaemon(true);
        calls.setUncaughtExceptionHandler((thread, fault) -> thrown[0] = fault);
        calls.start();
        calls.join(MOST_MILLIS);
        if (thrown[0] != null) {
            thrown[0].printStackTrace(System.out);
        }
        Due.is("a call threw", thrown[0] != null, false);
        Due.is("every call ended", ended[0], true);
    }

    private static void askAnything() {
        for (int points : ANY_INT) {
            MeanCycles x = new MeanCycles(points);
            askEverything(x);
            setAnything(x);
            askEverything(x);
        }
        for (int n = 1; n <= 6; n++) {
            askEverything(Graphs.full(n, -20, 1));
            askEverything(Graphs.full(n, -20, 5));
            askEverything(Graphs.full(n, 20, 5));
            askEverything(Graphs.full(n, 0, 1));
            askEverything(Graphs.upward(n, -20, 5));
            askEverything(Graphs.ring(n, 20, 5));
        }
    }

    private static void setAnything(MeanCycles x) {
        for (int u : FEW_INTS) {
            for (int v : FEW_INTS) {
                for (int weight : FEW_INTS) {
                    for (int time : FEW_INTS) {
                        x.arc(u, v, weight, time);
                    }
                }
            }
        }
        for (int any : ANY_INT) {
            x.arc(any, 0, 0, 1);
            x.arc(0, any, 0, 1);
            x.arc(0, 0, any, 1);
            x.arc(0, 0, 0, any);
        }
    }

    /** Cuts come last, so that the questions are asked of the object as it was made. */
    private static void askEverything(MeanCycles x) {
        askFractionsAndSets(x);
        for (int u : ANY_INT) {
            x.steady(u);
            for (int v : ANY_INT) {
                x.meanArc(u, v);
                x.ratioArc(u, v);
            }
        }
        for (int u : ANY_INT) {
            for (int v : ANY_INT) {
                if (x.cut(u, v)) {
                    askFractionsAndSets(x);
                }
            }
        }
        askFractionsAndSets(x);
    }

    private static void askFractionsAndSets(MeanCycles x) {
        x.meanTop();
        x.meanBottom();
        x.ratioTop();
        x.ratioBottom();
        x.meanPoints();
        x.onCircle();
    }
}
