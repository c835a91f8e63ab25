/** All smallest cuts of a small network at once. */
public final class CutTree {
    public static final int BAD = -1;

    private static final int FEWEST_POINTS = 2;
    private static final int MOST_POINTS = 8;
    private static final int CELLS = MOST_POINTS * MOST_POINTS;
    private static final int MOST_CAPACITY = 50;
    // Above the weight of any cut: 28 couples of points, each with at most 50.
    private static final int ABOVE_ANY_WEIGHT = 28 * MOST_CAPACITY + 1;

    private final int count;
    // The set of all points, which is the first number above every cut.
    private final int allPoints;
    // Each capacity stands twice, for (u, v) and for (v, u), so that a reader need not order the points.
    private final int[] capacities = new int[CELLS];

    public CutTree(int points) {
        if (points < FEWEST_POINTS) {
            count = FEWEST_POINTS;
        } else if (points > MOST_POINTS) {
            count = MOST_POINTS;
        } else {
            count = points;
        }
        allPoints = (1 << count) - 1;
    }

    public boolean connect(int u, int v, int capacity) {
        if (!isCouple(u, v) || capacity < 0 || capacity > MOST_CAPACITY) {
            return false;
        }
        setBetween(u, v, capacity);
        return true;
    }

    public int capacity(int u, int v) {
        return isCouple(u, v) ? between(u, v) : BAD;
    }

    public int link(int u, int v) {
        return isCouple(u, v) ? linkOf(u, v) : BAD;
    }

    public int side(int u, int v) {
        if (!isCouple(u, v)) {
            return BAD;
        }
        int link = linkOf(u, v);
        int best = BAD;
        int bestSize = MOST_POINTS;
        for (int cut = 1; cut < allPoints; cut++) {
            if (has(cut, u) && !has(cut, v) && weigh(cut) == link) {
                int size = sizeOf(cut);
                if (size < bestSize) {
                    best = cut;
                    bestSize = size;
                }
            }
        }
        return best;
    }

    public int smallest() {
        int least = ABOVE_ANY_WEIGHT;
        for (int cut = 1; cut < allPoints; cut++) {
            int weight = weigh(cut);
            if (weight < least) {
                least = weight;
            }
        }
        return least;
    }

    public int couples(int k) {
        int found = 0;
        for (int u = 0; u < count; u++) {
            for (int v = u + 1; v < count; v++) {
                if (linkOf(u, v) >= k) {
                    found++;
                }
            }
        }
        return found;
    }

    public int groups(int k) {
        int found = 0;
        for (int u = 0; u < count; u++) {
            int group = groupOf(u, k);
            int lowerPoints = (1 << u) - 1;
            // A group is counted once, at its lowest point.
            if ((group & lowerPoints) == 0) {
                found++;
            }
        }
        return found;
    }

    public int group(int u, int k) {
        return isPoint(u) ? groupOf(u, k) : BAD;
    }

    public int weight(int cut) {
        return cut > 0 && cut < allPoints ? weigh(cut) : BAD;
    }

    public int total() {
        int sum = 0;
        for (int u = 0; u < count; u++) {
            for (int v = u + 1; v < count; v++) {
                sum += linkOf(u, v);
            }
        }
        return sum;
    }

    public int cap(int top) {
        if (top < 0) {
            return BAD;
        }
        int lowered = 0;
        for (int u = 0; u < count; u++) {
            for (int v = u + 1; v < count; v++) {
                if (between(u, v) > top) {
                    setBetween(u, v, top);
                    lowered++;
                }
            }
        }
        return lowered;
    }

    private boolean isPoint(int u) {
        return u >= 0 && u < count;
    }

    private boolean isCouple(int u, int v) {
        return isPoint(u) && isPoint(v) && u != v;
    }

    private int between(int u, int v) {
        return capacities[u * MOST_POINTS + v];
    }

    private void setBetween(int u, int v, int capacity) {
        capacities[u * MOST_POINTS + v] = capacity;
        capacities[v * MOST_POINTS + u] = capacity;
    }

    private static boolean has(int set, int u) {
        return (set >> u & 1) == 1;
    }

    private static boolean parts(int cut, int u, int v) {
        return ((cut >> u ^ cut >> v) & 1) == 1;
    }

    private static int sizeOf(int set) {
        int size = 0;
        for (int u = 0; u < MOST_POINTS; u++) {
            if (has(set, u)) {
                size++;
            }
        }
        return size;
    }

    private int weigh(int cut) {
        int sum = 0;
        for (int u = 0; u < count; u++) {
            for (int v = u + 1; v < count; v++) {
                if (parts(cut, u, v)) {
                    sum += between(u, v);
                }
            }
        }
        return sum;
    }

    private int linkOf(int u, int v) {
        int least = ABOVE_ANY_WEIGHT;
        for (int cut = 1; cut < allPoints; cut++) {
            if (parts(cut, u, v)) {
                int weight = weigh(cut);
                if (weight < least) {
                    least = weight;
                }
            }
        }
        return least;
    }

    private int groupOf(int u, int k) {
        int set = 0;
        for (int v = 0; v < count; v++) {
            if (v == u || linkOf(u, v) >= k) {
                set |= 1 << v;
            }
        }
        return set;
    }
}
