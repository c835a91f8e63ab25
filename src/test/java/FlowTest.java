// Long runs of calls, each answer compared with a model that finds links by greatest flows instead of by trying all cuts.
public final class FlowTest {
    private static final int BAD = -1;
    private static final int RUNS = 300;
    private static final int CALLS = 512;

    private static int wrong = 0;
    private static long seed = 20261115L;

    private final int n;
    private final int[][] capacity;
    private final CutTree tree;

    private FlowTest(int points) {
        n = points < 2 ? 2 : points > 8 ? 8 : points;
        capacity = new int[n][n];
        tree = new CutTree(points);
    }

    // A fixed sequence, so that every run of the test makes the same calls.
    private static int next(int bound) {
        seed = seed * 6364136223846793005L + 1442695040888963407L;
        return (int) ((seed >>> 33) % bound);
    }

    private static void due(String call, long got, long want) {
        if (got != want) {
            wrong++;
            if (wrong <= 20) {
                System.out.println(call + " answered " + got + ", due is " + want);
            }
        }
    }

    private boolean bad(int u) {
        return u < 0 || u >= n;
    }

    private boolean bad(int u, int v) {
        return bad(u) || bad(v) || u == v;
    }

    // Answers the greatest flow from u to v in [0], and the points that u still reaches after it in [1].
    private int[] flow(int u, int v) {
        int[][] left = new int[n][];
        for (int i = 0; i < n; i++) {
            left[i] = capacity[i].clone();
        }
        int sum = 0;
        while (true) {
            int[] from = search(left, u);
            if (from[v] < 0) {
                int reached = 0;
                for (int i = 0; i < n; i++) {
                    reached |= from[i] >= 0 ? 1 << i : 0;
                }
                return new int[] {sum, reached};
            }
            int least = Integer.MAX_VALUE;
            for (int i = v; i != u; i = from[i]) {
                least = Math.min(least, left[from[i]][i]);
            }
            for (int i = v; i != u; i = from[i]) {
                left[from[i]][i] -= least;
                left[i][from[i]] += least;
            }
            sum += least;
        }
    }

    private int[] search(int[][] left, int start) {
        int[] from = new int[n];
        java.util.Arrays.fill(from, -1);
        from[start] = start;
        int[] queue = new int[n];
        int end = 1;
        queue[0] = start;
        for (int at = 0; at < end; at++) {
            for (int i = 0; i < n; i++) {
                if (from[i] < 0 && left[queue[at]][i] > 0) {
                    from[i] = queue[at];
                    queue[end++] = i;
                }
            }
        }
        return from;
    }

    private int weight(int cut) {
        if (cut <= 0 || cut >= (1 << n) - 1) {
            return BAD;
        }
        int sum = 0;
        for (int u = 0; u < n; u++) {
            for (int v = 0; v < n; v++) {
                sum += (cut >> u & 1) == 1 && (cut >> v & 1) == 0 ? capacity[u][v] : 0;
            }
        }
        return sum;
    }

    private int smallest() {
        int least = Integer.MAX_VALUE;
        for (int v = 1; v < n; v++) {
            least = Math.min(least, flow(0, v)[0]);
        }
        return least;
    }

    private int couples(int k) {
        int found = 0;
        for (int u = 0; u < n; u++) {
            for (int v = 0; v < u; v++) {
                found += flow(u, v)[0] >= k ? 1 : 0;
            }
        }
        return found;
    }

    private int group(int u, int k) {
        int set = 1 << u;
        for (int v = 0; v < n; v++) {
            set |= v != u && flow(u, v)[0] >= k ? 1 << v : 0;
        }
        return set;
    }

    private int groups(int k) {
        java.util.Set<Integer> different = new java.util.HashSet<>();
        for (int u = 0; u < n; u++) {
            different.add(group(u, k));
        }
        return different.size();
    }

    private int total() {
        int sum = 0;
        for (int u = 0; u < n; u++) {
            for (int v = 0; v < u; v++) {
                sum += flow(u, v)[0];
            }
        }
        return sum;
    }

    private boolean connect(int u, int v, int c) {
        if (bad(u, v) || c < 0 || c > 50) {
            return false;
        }
        capacity[u][v] = c;
        capacity[v][u] = c;
        return true;
    }

    private int cap(int top) {
        if (top < 0) {
            return BAD;
        }
        int lowered = 0;
        for (int u = 0; u < n; u++) {
            for (int v = 0; v < n; v++) {
                if (capacity[u][v] > top) {
                    capacity[u][v] = top;
                    lowered++;
                }
            }
        }
        return lowered / 2;
    }

    private void call(String run, int kind, int most) {
        int u = next(n + 2) - 1;
        int v = next(n + 2) - 1;
        int k = next(8) == 0 ? next(400) : next(most * 2 + 3) - 1;
        String couple = "(" + u + ", " + v + ")";
        switch (kind) {
            case 0: due(run + "capacity" + couple, tree.capacity(u, v), bad(u, v) ? BAD : capacity[u][v]); break;
            case 1: due(run + "link" + couple, tree.link(u, v), bad(u, v) ? BAD : flow(u, v)[0]); break;
            case 2: due(run + "side" + couple, tree.side(u, v), bad(u, v) ? BAD : flow(u, v)[1]); break;
            case 3: due(run + "smallest()", tree.smallest(), smallest()); break;
            case 4: due(run + "couples(" + k + ")", tree.couples(k), couples(k)); break;
            case 5: due(run + "groups(" + k + ")", tree.groups(k), groups(k)); break;
            case 6: due(run + "group(" + u + ", " + k + ")", tree.group(u, k), bad(u) ? BAD : group(u, k)); break;
            case 7:
                int cut = next((1 << n) + 2) - 1;
                due(run + "weight(" + cut + ")", tree.weight(cut), weight(cut));
                break;
            case 8: due(run + "total()", tree.total(), total()); break;
            case 9:
                int top = next(4) == 0 ? next(most + 3) - 1 : 40 + next(20);
                due(run + "cap(" + top + ")", tree.cap(top), cap(top));
                break;
            default:
                int c = next(most + 3) - 1;
                String call = run + "connect(" + u + ", " + v + ", " + c + ")";
                due(call, tree.connect(u, v, c) ? 1 : 0, connect(u, v, c) ? 1 : 0);
        }
    }

    public static void main(String[] args) {
        int[] mosts = {1, 3, 10, 50};
        for (int run = 0; run < RUNS; run++) {
            FlowTest test = new FlowTest(next(10) + 1);
            for (int i = 0; i < CALLS; i++) {
                test.call("run " + run + ", call " + i + ": ", next(20), mosts[run % mosts.length]);
            }
        }
        System.out.println(wrong == 0 ? "all answers are as due" : wrong + " answers are not as due");
        if (wrong != 0) {
            System.exit(1);
        }
    }
}
