/** The objects that the tests begin with. */
final class Graphs {
    private Graphs() {
    }

    /** From each point to the next and from the last to the first; with one point, a loop. */
    static MeanCycles ring(int n, int weight, int time) {
        MeanCycles x = new MeanCycles(n);
        for (int u = 0; u < n; u++) {
            x.arc(u, (u + 1) % n, weight, time);
        }
        return x;
    }

    /** One ring of n points, with these sums over its arcs. */
    static MeanCycles ringOfSums(int n, int weight, int time) {
        MeanCycles x = new MeanCycles(n);
        int weightLeft = weight;
        int timeLeft = time;
        for (int u = 0; u < n; u++) {
            int arcsLeft = n - u;
            int arcWeight = weightLeft / arcsLeft;
            int arcTime = timeLeft / arcsLeft;
            x.arc(u, (u + 1) % n, arcWeight, arcTime);
            weightLeft -= arcWeight;
            timeLeft -= arcTime;
        }
        return x;
    }

    /** From each point to each point, loops too. */
    static MeanCycles full(int n, int weight, int time) {
        MeanCycles x = new MeanCycles(n);
        for (int u = 0; u < n; u++) {
            for (int v = 0; v < n; v++) {
                x.arc(u, v, weight, time);
            }
        }
        return x;
    }

    /** From each point to each greater one: as many arcs as can be without a circle. */
    static MeanCycles upward(int n, int weight, int time) {
        MeanCycles x = new MeanCycles(n);
        for (int u = 0; u < n; u++) {
            for (int v = u + 1; v < n; v++) {
                x.arc(u, v, weight, time);
            }
        }
        return x;
    }

    /** Rings 0-1 (weight 7, time 5) and a loop at 2, arcs on no circle, no arcs elsewhere. */
    static MeanCycles mixed() {
        MeanCycles x = new MeanCycles(3);
        x.arc(0, 1, 3, 2);
        x.arc(1, 0, 4, 3);
        x.arc(2, 2, 9, 1);
        x.arc(1, 2, -20, 5);
        return x;
    }
}
