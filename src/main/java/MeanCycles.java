/**
 * Circles with the smallest mean, and with the smallest ratio.
 *
 * Both come from one search. Give every arc a SPAN: 1 for the mean, its time for the ratio; what is
 * sought is then the smallest weight divided by span. The search looks at closed walks, not at
 * circles: a closed walk falls apart into circles, so none has a smaller quotient than the best
 * circle, and one that has just the best quotient falls apart into best circles alone.
 */
public final class MeanCycles {
    public static final int NONE = -1000;
    public static final int BAD = -1001;

    private static final int MOST_POINTS = 6;
    private static final int MOST_WEIGHT = 20;
    private static final int MOST_TIME = 5;
    private static final int MOST_STEADY = 100;

    private static final int PAIRS = MOST_POINTS * MOST_POINTS;
    // No circle spans more, so walks up to this span leave no circle out.
    private static final int MOST_SPAN = MOST_POINTS * MOST_TIME;
    private static final int WALKS = (MOST_SPAN + 1) * PAIRS;
    // Far above the weight of any walk that is looked at.
    private static final int NO_WALK = 1000000;

    private final int n;
    private final int[] weights = new int[PAIRS];
    // In both kinds of span 0 says that there is no arc: an arc's own span is never below 1.
    private final int[] steps = new int[PAIRS];
    private final int[] times = new int[PAIRS];

    // The lightest walk of each span from each point to each point, for the search under way.
    private final int[] walks = new int[WALKS];
    // The smallest quotient, in lowest terms; a bottom of 0 says that there is no circle.
    private int bestTop;
    private int bestBottom;

    public MeanCycles(int points) {
        if (points < 1) {
            n = 1;
        } else if (points > MOST_POINTS) {
            n = MOST_POINTS;
        } else {
            n = points;
        }
    }

    public boolean arc(int u, int v, int weight, int time) {
        if (!isPoint(u) || !isPoint(v)) {
            return false;
        }
        if (weight < -MOST_WEIGHT || weight > MOST_WEIGHT || time < 1 || time > MOST_TIME) {
            return false;
        }
        int pair = pairOf(u, v);
        weights[pair] = weight;
        steps[pair] = 1;
        times[pair] = time;
        return true;
    }

    public boolean cut(int u, int v) {
        if (!isArc(u, v)) {
            return false;
        }
        int pair = pairOf(u, v);
        steps[pair] = 0;
        times[pair] = 0;
        return true;
    }

    public int meanTop() {
        findBest(steps);
        return bestBottom == 0 ? NONE : bestTop;
    }

    public int meanBottom() {
        findBest(steps);
        return bestBottom == 0 ? NONE : bestBottom;
    }

    public int ratioTop() {
        findBest(times);
        return bestBottom == 0 ? NONE : bestTop;
    }

    public int ratioBottom() {
        findBest(times);
        return bestBottom == 0 ? NONE : bestBottom;
    }

    public boolean meanArc(int u, int v) {
        if (!isArc(u, v)) {
            return false;
        }
        findBest(steps);
        return isBestArc(steps, u, v);
    }

    public boolean ratioArc(int u, int v) {
        if (!isArc(u, v)) {
            return false;
        }
        findBest(times);
        return isBestArc(times, u, v);
    }

    public int meanPoints() {
        findBest(steps);
        int set = 0;
        for (int u = 0; u < n; u++) {
            if (isBestPoint(u)) {
                set |= 1 << u;
            }
        }
        return set;
    }

    public boolean steady(int p) {
        if (p < -MOST_STEADY || p > MOST_STEADY) {
            return false;
        }
        findBest(times);
        return bestBottom == 0 || bestTop >= p * bestBottom;
    }

    public int onCircle() {
        findWalks(steps);
        int set = 0;
        for (int u = 0; u < n; u++) {
            if (isOnCircle(u)) {
                set |= 1 << u;
            }
        }
        return set;
    }

    private boolean isPoint(int u) {
        return u >= 0 && u < n;
    }

    private boolean isArc(int u, int v) {
        return isPoint(u) && isPoint(v) && steps[pairOf(u, v)] != 0;
    }

    private static int pairOf(int u, int v) {
        return u * MOST_POINTS + v;
    }

    private static int walkOf(int span, int u, int v) {
        return span * PAIRS + u * MOST_POINTS + v;
    }

    private void findBest(int[] spans) {
        findWalks(spans);
        bestTop = 0;
        bestBottom = 0;
        for (int span = 1; span <= MOST_SPAN; span++) {
            for (int u = 0; u < n; u++) {
                int walk = walkOf(span, u, u);
                offer(walks[walk], span);
            }
        }
        reduceBest();
    }

    private void findWalks(int[] spans) {
        for (int u = 0; u < n; u++) {
            for (int v = 0; v < n; v++) {
                int empty = walkOf(0, u, v);
                walks[empty] = u == v ? 0 : NO_WALK;
            }
        }
        for (int span = 1; span <= MOST_SPAN; span++) {
            for (int u = 0; u < n; u++) {
                for (int v = 0; v < n; v++) {
                    int walk = walkOf(span, u, v);
                    walks[walk] = lightest(spans, span, u, v);
                }
            }
        }
    }

    /** The lightest walk from u to v of just this span, made from shorter walks and a last arc. */
    private int lightest(int[] spans, int span, int u, int v) {
        int least = NO_WALK;
        for (int last = 0; last < n; last++) {
            int pair = pairOf(last, v);
            int rest = span - spans[pair];
            if (spans[pair] != 0 && rest >= 0) {
                int before = walkOf(rest, u, last);
                if (walks[before] != NO_WALK && walks[before] + weights[pair] < least) {
                    least = walks[before] + weights[pair];
                }
            }
        }
        return least;
    }

    private void offer(int weight, int span) {
        if (weight == NO_WALK) {
            return;
        }
        if (bestBottom == 0 || weight * bestBottom < bestTop * span) {
            bestTop = weight;
            bestBottom = span;
        }
    }

    private void reduceBest() {
        for (int d = bestBottom; d > 1; d--) {
            if (bestTop % d == 0 && bestBottom % d == 0) {
                bestTop /= d;
                bestBottom /= d;
                // The first that divides both is the greatest, so nothing is left to divide by.
                return;
            }
        }
    }

    private boolean isBest(int weight, int span) {
        return weight * bestBottom == bestTop * span;
    }

    private boolean isBestPoint(int u) {
        for (int span = 1; span <= MOST_SPAN; span++) {
            int walk = walkOf(span, u, u);
            if (walks[walk] != NO_WALK && isBest(walks[walk], span)) {
                return true;
            }
        }
        return false;
    }

    /** Asked of an arc that is there: whether it and some walk back make a best closed walk. */
    private boolean isBestArc(int[] spans, int u, int v) {
        int pair = pairOf(u, v);
        for (int rest = 0; rest + spans[pair] <= MOST_SPAN; rest++) {
            int back = walkOf(rest, v, u);
            if (walks[back] != NO_WALK && isBest(walks[back] + weights[pair], rest + spans[pair])) {
                return true;
            }
        }
        return false;
    }

    private boolean isOnCircle(int u) {
        for (int span = 1; span <= MOST_SPAN; span++) {
            int walk = walkOf(span, u, u);
            if (walks[walk] != NO_WALK) {
                return true;
            }
        }
        return false;
    }
}
