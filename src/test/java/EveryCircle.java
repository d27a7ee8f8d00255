import java.util.ArrayList;
import java.util.List;

/** What the document says, word for word: lists every circle and looks at each. */
final class EveryCircle {
    private record Arc(int weight, int time) {
    }

    private record Circle(List<Integer> points, int weight, int time) {
        int span(boolean timed) {
            return timed ? time : points.size();
        }

        boolean hasArc(int u, int v) {
            int at = points.indexOf(u);
            return at >= 0 && points.get((at + 1) % points.size()) == v;
        }
    }

    private final int n;
    private final Arc[][] arcs;
    private List<Circle> circles = new ArrayList<>();

    EveryCircle(int points) {
        n = Math.max(1, Math.min(6, points));
        arcs = new Arc[n][n];
    }

    private boolean outside(int u, int v) {
        return u < 0 || u >= n || v < 0 || v >= n;
    }

    boolean arc(int u, int v, int weight, int time) {
        if (outside(u, v) || weight < -20 || weight > 20 || time < 1 || time > 5) {
            return false;
        }
        arcs[u][v] = new Arc(weight, time);
        listCircles();
        return true;
    }

    boolean cut(int u, int v) {
        if (outside(u, v) || arcs[u][v] == null) {
            return false;
        }
        arcs[u][v] = null;
        listCircles();
        return true;
    }

    /** Each circle once, by the list that begins with its smallest point. */
    private void listCircles() {
        circles = new ArrayList<>();
        for (int first = 0; first < n; first++) {
            extend(new ArrayList<>(List.of(first)), 0, 0);
        }
    }

    private void extend(List<Integer> points, int weight, int time) {
        int first = points.get(0);
        int last = points.get(points.size() - 1);
        Arc home = arcs[last][first];
        if (home != null) {
            circles.add(new Circle(List.copyOf(points), weight + home.weight, time + home.time));
        }
        for (int next = first + 1; next < n; next++) {
            Arc step = arcs[last][next];
            if (step != null && !points.contains(next)) {
                points.add(next);
                extend(points, weight + step.weight, time + step.time);
                points.remove(points.size() - 1);
            }
        }
    }

    private static int compare(Circle a, Circle b, boolean timed) {
        return Integer.compare(a.weight * b.span(timed), b.weight * a.span(timed));
    }

    private Circle smallest(boolean timed) {
        return circles.stream().min((a, b) -> compare(a, b, timed)).orElse(null);
    }

    private List<Circle> allSmallest(boolean timed) {
        Circle best = smallest(timed);
        return circles.stream().filter(c -> compare(c, best, timed) == 0).toList();
    }

    private static int greatestDivisor(int a, int b) {
        return b == 0 ? Math.abs(a) : greatestDivisor(b, a % b);
    }

    int top(boolean timed) {
        Circle best = smallest(timed);
        return best == null ? -1000 : best.weight / greatestDivisor(best.weight, best.span(timed));
    }

    int bottom(boolean timed) {
        Circle best = smallest(timed);
        return best == null ? -1000 : best.span(timed) / greatestDivisor(best.weight, best.span(timed));
    }

    boolean bestArc(boolean timed, int u, int v) {
        return allSmallest(timed).stream().anyMatch(c -> c.hasArc(u, v));
    }

    private static int set(List<Circle> circles) {
        int set = 0;
        for (Circle circle : circles) {
            for (int point : circle.points) {
                set |= 1 << point;
            }
        }
        return set;
    }

    int meanPoints() {
        return set(allSmallest(false));
    }

    int onCircle() {
        return set(circles);
    }

    boolean steady(int p) {
        return p >= -100 && p <= 100 && circles.stream().allMatch(c -> c.weight >= p * c.time);
    }
}
