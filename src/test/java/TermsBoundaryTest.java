/** The boundary cases that the document's 'Terms' name, a part for each sentence. */
public final class TermsBoundaryTest {
    public static void main(String[] args) {
        pointsAreOneToSix();
        anArcOrNone();
        weightAndTime();
        oneOrMoreDifferentPoints();
        lowestTerms();
        Due.end();
    }

    private static void pointsAreOneToSix() {
        Due.by("Terms", "There are n POINTS (1 to 6), numbered from 0.");
        for (int n = 1; n <= 6; n++) {
            String made = "n = " + n + ": ";
            for (int u = 0; u < n; u++) {
                MeanCycles x = new MeanCycles(n);
                Due.is(made + "loop at " + u, x.arc(u, u, 5, 2), true);
                Due.is(made + "onCircle(), loop at " + u, x.onCircle(), 1 << u);
                Due.is(made + "meanPoints(), loop at " + u, x.meanPoints(), 1 << u);
                Due.is(made + "meanArc, loop at " + u, x.meanArc(u, u), true);
                Due.is(made + "ratioArc, loop at " + u, x.ratioArc(u, u), true);
                Due.is(made + "cut, loop at " + u, x.cut(u, u), true);
            }
            MeanCycles x = Graphs.full(n, 5, 2);
            for (int out : new int[] {-1, n}) {
                for (int u = 0; u < n; u++) {
                    Due.is(made + "arc(" + u + ", " + out + ")", x.arc(u, out, 0, 1), false);
                    Due.is(made + "arc(" + out + ", " + u + ")", x.arc(out, u, 0, 1), false);
                }
            }
            Due.is(made + "onCircle() of all", x.onCircle(), (1 << n) - 1);
            Due.is(made + "meanPoints() of all", x.meanPoints(), (1 << n) - 1);
        }
    }

    private static void anArcOrNone() {
        Due.by("Terms", "From each point to each point (perhaps the same) there is an ARC or none");
        for (int n = 1; n <= 6; n++) {
            for (int pair = 0; pair < n * n; pair++) {
                onlyArc(n, pair / n, pair % n);
                onlyGap(n, pair / n, pair % n);
            }
        }
        MeanCycles x = new MeanCycles(2);
        x.arc(0, 0, 9, 1);
        x.arc(0, 0, 8, 2);
        Due.is("an arc set twice is one arc: meanTop()", x.meanTop(), 8);
        Due.is("an arc set twice is one arc: cut", x.cut(0, 0), true);
        Due.is("an arc set twice is one arc: cut again", x.cut(0, 0), false);
        Due.is("an arc set twice is one arc: onCircle()", x.onCircle(), 0);
    }

    private static void onlyArc(int n, int u, int v) {
        String name = "n = " + n + ", only arc " + u + " to " + v + ": ";
        MeanCycles x = new MeanCycles(n);
        Due.is(name + "arc", x.arc(u, v, -3, 1), true);
        Due.is(name + "onCircle()", x.onCircle(), u == v ? 1 << u : 0);
        for (int pair = 0; pair < n * n; pair++) {
            boolean itself = pair == u * n + v;
            Due.is(name + "meanArc " + pair, x.meanArc(pair / n, pair % n), itself && u == v);
            if (!itself) {
                Due.is(name + "cut " + pair, x.cut(pair / n, pair % n), false);
            }
        }
        Due.is(name + "cut", x.cut(u, v), true);
    }

    private static void onlyGap(int n, int u, int v) {
        String name = "n = " + n + ", only gap " + u + " to " + v + ": ";
        MeanCycles x = Graphs.full(n, -3, 1);
        Due.is(name + "cut", x.cut(u, v), true);
        for (int pair = 0; pair < n * n; pair++) {
            boolean itself = pair == u * n + v;
            // With two points alone the arc back has no other way to be on a circle.
            boolean onlyBack = n == 2 && u != v && pair == v * n + u;
            Due.is(name + "meanArc " + pair, x.meanArc(pair / n, pair % n), !itself && !onlyBack);
            Due.is(name + "ratioArc " + pair, x.ratioArc(pair / n, pair % n), !itself && !onlyBack);
        }
        for (int pair = 0; pair < n * n; pair++) {
            Due.is(name + "cut " + pair, x.cut(pair / n, pair % n), pair != u * n + v);
        }
    }

    private static void weightAndTime() {
        Due.by("Terms", "a WEIGHT from -20 to 20 and a TIME from 1 to 5");
        for (int weight = -21; weight <= 21; weight++) {
            for (int time = 0; time <= 6; time++) {
                boolean inside = weight != -21 && weight != 21 && time != 0 && time != 6;
                String name = "weight " + weight + ", time " + time + ": ";
                MeanCycles x = new MeanCycles(2);
                x.arc(1, 0, 7, 1);
                Due.is(name + "arc", x.arc(0, 1, weight, time), inside);
                if (inside) {
                    // The way back keeps the circle's weight from 0 but for one, so the time shows.
                    fraction(name, x, weight + 7, 2, time + 1);
                } else {
                    Due.is(name + "meanTop()", x.meanTop(), MeanCycles.NONE);
                }
            }
        }
    }

    private static void oneOrMoreDifferentPoints() {
        Due.by("Terms", "A CIRCLE is a list of one or more different points");
        MeanCycles x = new MeanCycles(6);
        Due.is("no points, no circle: meanBottom()", x.meanBottom(), MeanCycles.NONE);
        Due.is("a point without a loop is no circle: onCircle()", x.onCircle(), 0);
        for (int n = 1; n <= 6; n++) {
            x = Graphs.ring(n, -1, 2);
            Due.is("a circle of " + n + ": onCircle()", x.onCircle(), (1 << n) - 1);
            Due.is("a circle of " + n + ": meanPoints()", x.meanPoints(), (1 << n) - 1);
            x.cut(n - 1, 0);
            Due.is("a circle of " + n + " with an arc away: onCircle()", x.onCircle(), 0);
        }
        x = new MeanCycles(2);
        x.arc(0, 1, 1, 1);
        Due.is("there without back: onCircle()", x.onCircle(), 0);
        x.arc(1, 0, 1, 1);
        Due.is("there and back: onCircle()", x.onCircle(), 3);
        throughOnePointTwice();
    }

    /** Rings 0-1-2 of mean 0 and 2-3-4 of mean 2 meet in 2: both in one are no circle. */
    private static void throughOnePointTwice() {
        MeanCycles x = new MeanCycles(6);
        x.arc(0, 1, -1, 1);
        x.arc(1, 2, 1, 1);
        x.arc(2, 0, 0, 1);
        x.arc(2, 3, -20, 1);
        x.arc(3, 4, 6, 1);
        x.arc(4, 2, 20, 1);
        Due.is("two rings that meet: meanTop()", x.meanTop(), 0);
        Due.is("two rings that meet: meanPoints()", x.meanPoints(), 7);
        Due.is("two rings that meet: meanArc(2, 3)", x.meanArc(2, 3), false);
        Due.is("two rings that meet: ratioArc(2, 3)", x.ratioArc(2, 3), false);
        Due.is("two rings that meet: ratioArc(2, 0)", x.ratioArc(2, 0), true);
        Due.is("two rings that meet: onCircle()", x.onCircle(), 31);
    }

    private static void lowestTerms() {
        Due.by("Terms", "A fraction is written in lowest terms with a denominator above 0.");
        for (int n = 1; n <= 6; n++) {
            for (int weight = -20 * n; weight <= 20 * n; weight++) {
                for (int time = n; time <= 5 * n; time++) {
                    MeanCycles x = Graphs.ringOfSums(n, weight, time);
                    fraction("ring of " + n + ", weight " + weight + ", time " + time + ": ", x, weight, n, time);
                }
            }
        }
    }

    private static void fraction(String name, MeanCycles x, int weight, int length, int time) {
        int byLength = greatestDivisor(weight, length);
        int byTime = greatestDivisor(weight, time);
        Due.is(name + "meanTop()", x.meanTop(), weight / byLength);
        Due.is(name + "meanBottom()", x.meanBottom(), length / byLength);
        Due.is(name + "ratioTop()", x.ratioTop(), weight / byTime);
        Due.is(name + "ratioBottom()", x.ratioBottom(), time / byTime);
    }

    private static int greatestDivisor(int weight, int span) {
        for (int d = span; d > 1; d--) {
            if (weight % d == 0 && span % d == 0) {
                return d;
            }
        }
        return 1;
    }
}
