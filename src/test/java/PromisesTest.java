/** One part for each promise of the document: ordinary inputs, the named edges, wrong inputs. */
public final class PromisesTest {
    private static final int LOW = Integer.MIN_VALUE;
    private static final int HIGH = Integer.MAX_VALUE;
    private static final int[] OUTSIDE_OF_THREE = {-1, 3, 5, 6, 7, LOW, HIGH};

    public static void main(String[] args) {
        promise1NewObject();
        promise2Arc();
        promise2RefusedArcChangesNothing();
        promise3Cut();
        promises4To7NoCircle();
        promises4To7OneCircle();
        promises4To7LowestTerms();
        promises4To7Edges();
        promises4And6Differ();
        promise8MeanArc();
        promise9RatioArc();
        promises8And9Refuse();
        promises8And9OnlyCirclesOfDifferentPoints();
        promise10MeanPoints();
        promise11Steady();
        promise12OnCircle();
        objectsAreApart();
        Due.end();
    }

    private static void promise1NewObject() {
        int[] points = {LOW, -7, 0, 1, 2, 3, 4, 5, 6, 7, 100, HIGH};
        int[] clamped = {1, 1, 1, 1, 2, 3, 4, 5, 6, 6, 6, 6};
        for (int i = 0; i < points.length; i++) {
            MeanCycles x = new MeanCycles(points[i]);
            String made = "new MeanCycles(" + points[i] + "): ";
            noCircle(made, x);
            int last = clamped[i] - 1;
            Due.is(made + "cut(0, 0)", x.cut(0, 0), false);
            Due.is(made + "cut(last, last)", x.cut(last, last), false);
            Due.is(made + "arc(n, 0)", x.arc(last + 1, 0, 1, 1), false);
            Due.is(made + "arc(0, n)", x.arc(0, last + 1, 1, 1), false);
            Due.is(made + "arc(last, last)", x.arc(last, last, 1, 1), true);
            Due.is(made + "onCircle()", x.onCircle(), 1 << last);
        }
    }

    private static void promise2Arc() {
        MeanCycles x = new MeanCycles(3);
        Due.is("arc, least weight and time", x.arc(0, 0, -20, 1), true);
        fractions("least weight and time", x, -20, 1, -20, 1);
        Due.is("arc set again, greatest weight and time", x.arc(0, 0, 20, 5), true);
        fractions("greatest weight and time", x, 20, 1, 4, 1);
        Due.is("arc set again, lighter weight", x.arc(0, 0, 19, 5), true);
        fractions("lighter weight", x, 19, 1, 19, 5);
        Due.is("arc set again, other time", x.arc(0, 0, 19, 2), true);
        fractions("other time", x, 19, 1, 19, 2);
        Due.is("arc in one direction", x.arc(1, 2, -20, 1), true);
        Due.is("which is no circle", x.onCircle(), 1);
        Due.is("arc in the other", x.arc(2, 1, -20, 1), true);
        Due.is("which is one", x.onCircle(), 7);
    }

    private static void promise2RefusedArcChangesNothing() {
        MeanCycles x = new MeanCycles(3);
        x.arc(0, 1, 3, 2);
        x.arc(1, 0, 4, 3);
        for (int out : OUTSIDE_OF_THREE) {
            Due.is("arc(" + out + ", 0, 0, 1)", x.arc(out, 0, 0, 1), false);
            Due.is("arc(0, " + out + ", 0, 1)", x.arc(0, out, 0, 1), false);
        }
        for (int weight : new int[] {-21, 21, -1000, LOW, HIGH}) {
            Due.is("arc(0, 1, " + weight + ", 1)", x.arc(0, 1, weight, 1), false);
            Due.is("arc(2, 2, " + weight + ", 1)", x.arc(2, 2, weight, 1), false);
        }
        for (int time : new int[] {0, 6, -1, LOW, HIGH}) {
            Due.is("arc(0, 1, 0, " + time + ")", x.arc(0, 1, 0, time), false);
            Due.is("arc(2, 2, 0, " + time + ")", x.arc(2, 2, 0, time), false);
        }
        fractions("after refused arcs", x, 7, 2, 7, 5);
        Due.is("onCircle() after refused arcs", x.onCircle(), 3);
        Due.is("cut of what was refused", x.cut(2, 2), false);
    }

    private static void promise3Cut() {
        MeanCycles x = new MeanCycles(3);
        x.arc(0, 1, 3, 2);
        x.arc(1, 0, 4, 3);
        x.arc(2, 2, 9, 1);
        for (int out : OUTSIDE_OF_THREE) {
            Due.is("cut(" + out + ", 0)", x.cut(out, 0), false);
            Due.is("cut(0, " + out + ")", x.cut(0, out), false);
        }
        Due.is("cut where there is none", x.cut(1, 2), false);
        fractions("after refused cuts", x, 7, 2, 7, 5);
        Due.is("cut(0, 1)", x.cut(0, 1), true);
        fractions("after the cut", x, 9, 1, 9, 1);
        Due.is("onCircle() after the cut", x.onCircle(), 4);
        Due.is("meanArc of a cut arc", x.meanArc(0, 1), false);
        Due.is("cut(0, 1) again", x.cut(0, 1), false);
        Due.is("the way back is still there", x.cut(1, 0), true);
        Due.is("arc after a cut", x.arc(1, 0, 0, 1), true);
        Due.is("arc after a cut", x.arc(0, 1, 1, 1), true);
        fractions("set again after a cut", x, 1, 2, 1, 2);
        x.cut(0, 1);
        x.cut(2, 2);
        noCircle("all circles cut: ", x);
    }

    private static void promises4To7NoCircle() {
        for (int n = 1; n <= 6; n++) {
            MeanCycles x = new MeanCycles(n);
            for (int u = 0; u < n; u++) {
                for (int v = u + 1; v < n; v++) {
                    x.arc(u, v, -20, 1 + v % 5);
                }
            }
            noCircle("arcs upward only, n = " + n + ": ", x);
        }
    }

    private static void promises4To7OneCircle() {
        for (int n = 1; n <= 6; n++) {
            MeanCycles x = Graphs.ring(n, 0, 1);
            x.arc(n - 1, 0, 1, 1);
            fractions("a ring of " + n + " with weight 1", x, 1, n, 1, n);
            x.arc(n - 1, 0, -1, 1);
            fractions("a ring of " + n + " with weight -1", x, -1, n, -1, n);
            x.arc(n - 1, 0, 0, 1);
            fractions("a ring of " + n + " with weight 0", x, 0, 1, 0, 1);
        }
    }

    private static void promises4To7LowestTerms() {
        MeanCycles x = Graphs.ring(6, 2, 5);
        fractions("12 by 6, 12 by 30", x, 2, 1, 2, 5);
        x.arc(0, 1, -6, 5);
        fractions("4 by 6, 4 by 30", x, 2, 3, 2, 15);
        x.arc(0, 1, -13, 5);
        fractions("-3 by 6, -3 by 30", x, -1, 2, -1, 10);
        x.arc(0, 1, -14, 1);
        fractions("-4 by 6, -4 by 26", x, -2, 3, -2, 13);
        x.arc(0, 1, -9, 4);
        fractions("1 by 6, 1 by 29", x, 1, 6, 1, 29);
    }

    private static void promises4To7Edges() {
        fractions("six points, all least", Graphs.ring(6, -20, 1), -20, 1, -20, 1);
        fractions("six points, all greatest", Graphs.ring(6, 20, 5), 20, 1, 4, 1);
        fractions("six points, light and slow", Graphs.ring(6, -20, 5), -20, 1, -4, 1);
        MeanCycles x = Graphs.ring(6, 20, 5);
        x.arc(0, 1, 19, 5);
        fractions("six points, 119 by 6, 119 by 30", x, 119, 6, 119, 30);
        x = Graphs.ring(6, -20, 5);
        x.arc(0, 1, -19, 5);
        fractions("six points, -119 by 6, -119 by 30", x, -119, 6, -119, 30);
    }

    private static void promises4And6Differ() {
        MeanCycles x = new MeanCycles(2);
        x.arc(0, 0, 3, 1);
        x.arc(1, 1, 4, 5);
        fractions("smallest mean at 0, smallest ratio at 1", x, 3, 1, 4, 5);
        Due.is("meanArc(0, 0)", x.meanArc(0, 0), true);
        Due.is("meanArc(1, 1)", x.meanArc(1, 1), false);
        Due.is("ratioArc(0, 0)", x.ratioArc(0, 0), false);
        Due.is("ratioArc(1, 1)", x.ratioArc(1, 1), true);
        Due.is("meanPoints()", x.meanPoints(), 1);
    }

    private static void promise8MeanArc() {
        MeanCycles x = twoRingsWithABridge();
        Due.is("meanArc in the first ring", x.meanArc(0, 1), true);
        Due.is("meanArc in the first ring", x.meanArc(1, 0), true);
        Due.is("meanArc in the second ring", x.meanArc(2, 3), true);
        Due.is("meanArc in the second ring", x.meanArc(4, 2), true);
        Due.is("meanArc of a bridge on no circle", x.meanArc(1, 2), false);
        Due.is("meanArc of a heavier circle", x.meanArc(5, 5), false);
        Due.is("meanArc where there is none", x.meanArc(0, 2), false);
        Due.is("meanArc against the arrow", x.meanArc(3, 2), false);
        x.arc(5, 5, 0, 1);
        Due.is("meanArc of the new smallest", x.meanArc(5, 5), true);
        Due.is("meanArc of the old smallest", x.meanArc(0, 1), false);
    }

    private static void promise9RatioArc() {
        MeanCycles x = new MeanCycles(5);
        x.arc(0, 1, 1, 3);
        x.arc(1, 0, 1, 1);
        x.arc(2, 3, -1, 1);
        x.arc(3, 2, 4, 5);
        x.arc(1, 2, -20, 5);
        x.arc(4, 4, 2, 3);
        fractions("ratios 1/2, 1/2 and 2/3", x, 1, 1, 1, 2);
        Due.is("ratioArc in the first ring", x.ratioArc(0, 1), true);
        Due.is("ratioArc in the first ring", x.ratioArc(1, 0), true);
        Due.is("ratioArc in the second ring", x.ratioArc(2, 3), true);
        Due.is("ratioArc in the second ring", x.ratioArc(3, 2), true);
        Due.is("ratioArc of a bridge on no circle", x.ratioArc(1, 2), false);
        Due.is("ratioArc of a greater ratio", x.ratioArc(4, 4), false);
        Due.is("ratioArc where there is none", x.ratioArc(2, 1), false);
        Due.is("meanArc goes by length", x.meanArc(2, 3), false);
        x.arc(4, 4, 2, 4);
        Due.is("ratioArc of a third that is as small", x.ratioArc(4, 4), true);
        x.arc(4, 4, 2, 5);
        Due.is("ratioArc of the new smallest", x.ratioArc(4, 4), true);
        Due.is("ratioArc of the old smallest", x.ratioArc(0, 1), false);
    }

    private static void promises8And9Refuse() {
        MeanCycles x = Graphs.ring(3, 1, 1);
        for (int out : OUTSIDE_OF_THREE) {
            Due.is("meanArc(" + out + ", 0)", x.meanArc(out, 0), false);
            Due.is("meanArc(0, " + out + ")", x.meanArc(0, out), false);
            Due.is("ratioArc(" + out + ", 0)", x.ratioArc(out, 0), false);
            Due.is("ratioArc(0, " + out + ")", x.ratioArc(0, out), false);
        }
        x.cut(2, 0);
        Due.is("meanArc without a circle", x.meanArc(0, 1), false);
        Due.is("ratioArc without a circle", x.ratioArc(0, 1), false);
    }

    /** A walk may go round the loop and the ring in one, but a circle may not: the ring stays heavy. */
    private static void promises8And9OnlyCirclesOfDifferentPoints() {
        MeanCycles x = new MeanCycles(2);
        x.arc(0, 0, -5, 1);
        x.arc(0, 1, 1, 1);
        x.arc(1, 0, 1, 1);
        fractions("a light loop on a heavy ring", x, -5, 1, -5, 1);
        Due.is("meanArc of the loop", x.meanArc(0, 0), true);
        Due.is("meanArc of the ring", x.meanArc(0, 1), false);
        Due.is("ratioArc of the ring", x.ratioArc(1, 0), false);
        Due.is("meanPoints()", x.meanPoints(), 1);
        Due.is("onCircle()", x.onCircle(), 3);
    }

    private static void promise10MeanPoints() {
        MeanCycles x = twoRingsWithABridge();
        Due.is("meanPoints() of two rings", x.meanPoints(), 31);
        x.arc(1, 0, 2, 1);
        Due.is("meanPoints() of the second ring", x.meanPoints(), 28);
        x.arc(5, 5, 1, 5);
        Due.is("meanPoints() with a loop", x.meanPoints(), 60);
        x.arc(5, 5, -20, 5);
        Due.is("meanPoints() of the loop", x.meanPoints(), 32);
        Due.is("meanPoints() of a ring of six", Graphs.ring(6, -3, 2).meanPoints(), 63);
        Due.is("meanPoints() without a circle", new MeanCycles(6).meanPoints(), 0);
    }

    private static void promise11Steady() {
        MeanCycles none = new MeanCycles(2);
        none.arc(0, 1, -20, 1);
        MeanCycles half = new MeanCycles(2);
        half.arc(0, 0, -1, 2);
        MeanCycles whole = new MeanCycles(2);
        whole.arc(0, 0, 6, 3);
        whole.arc(1, 1, 20, 1);
        for (int p = -100; p <= 100; p++) {
            Due.is("no circle, steady(" + p + ")", none.steady(p), true);
            Due.is("ratio -1/2, steady(" + p + ")", half.steady(p), p <= -1);
            Due.is("ratio 2, steady(" + p + ")", whole.steady(p), p <= 2);
        }
        for (int p : new int[] {-101, 101, -1000, LOW, HIGH}) {
            Due.is("no circle, steady(" + p + ")", none.steady(p), false);
            Due.is("ratio -1/2, steady(" + p + ")", half.steady(p), false);
            Due.is("ratio 2, steady(" + p + ")", whole.steady(p), false);
        }
        Due.is("least ratio, steady(-20)", Graphs.ring(6, -20, 1).steady(-20), true);
        Due.is("least ratio, steady(-19)", Graphs.ring(6, -20, 1).steady(-19), false);
    }

    private static void promise12OnCircle() {
        Due.is("onCircle() of a new object", new MeanCycles(6).onCircle(), 0);
        Due.is("onCircle() of a ring of six", Graphs.ring(6, 20, 5).onCircle(), 63);
        MeanCycles x = twoRingsWithABridge();
        Due.is("onCircle() of two rings and a loop", x.onCircle(), 63);
        x.cut(5, 5);
        Due.is("onCircle() without the loop", x.onCircle(), 31);
        x.arc(4, 5, -20, 1);
        Due.is("onCircle() with a dead end", x.onCircle(), 31);
        x.cut(0, 1);
        Due.is("onCircle() with points that only lead to a circle", x.onCircle(), 28);
        x.arc(5, 1, 20, 5);
        Due.is("onCircle() of a ring through the bridge", x.onCircle(), 62);
    }

    private static void objectsAreApart() {
        MeanCycles x = Graphs.ring(3, 1, 1);
        MeanCycles y = Graphs.ring(2, -3, 2);
        fractions("the first object", x, 1, 1, 1, 1);
        fractions("the second object", y, -3, 1, -3, 2);
        y.cut(0, 1);
        Due.is("onCircle() of the first", x.onCircle(), 7);
        Due.is("onCircle() of the second", y.onCircle(), 0);
    }

    /** Rings 0-1 and 2-3-4 of mean 1, a light bridge from the first to the second, a loop of mean 2. */
    private static MeanCycles twoRingsWithABridge() {
        MeanCycles x = new MeanCycles(6);
        x.arc(0, 1, 2, 1);
        x.arc(1, 0, 0, 1);
        x.arc(2, 3, -1, 2);
        x.arc(3, 4, 1, 2);
        x.arc(4, 2, 3, 1);
        x.arc(1, 2, -20, 1);
        x.arc(5, 5, 2, 1);
        return x;
    }

    private static void fractions(String what, MeanCycles x, int meanTop, int meanBottom, int ratioTop,
            int ratioBottom) {
        Due.is(what + ": meanTop()", x.meanTop(), meanTop);
        Due.is(what + ": meanBottom()", x.meanBottom(), meanBottom);
        Due.is(what + ": ratioTop()", x.ratioTop(), ratioTop);
        Due.is(what + ": ratioBottom()", x.ratioBottom(), ratioBottom);
    }

    private static void noCircle(String what, MeanCycles x) {
        fractions(what, x, MeanCycles.NONE, MeanCycles.NONE, MeanCycles.NONE, MeanCycles.NONE);
        Due.is(what + "meanArc(0, 1)", x.meanArc(0, 1), false);
        Due.is(what + "ratioArc(0, 1)", x.ratioArc(0, 1), false);
        Due.is(what + "meanPoints()", x.meanPoints(), 0);
        Due.is(what + "onCircle()", x.onCircle(), 0);
        Due.is(what + "steady(100)", x.steady(100), true);
    }
}
