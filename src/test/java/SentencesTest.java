import java.util.ArrayList;
import java.util.List;
import java.util.TreeSet;
import java.util.function.Consumer;

// One method for each sentence of the document that says what a capacity, a weight, a link, a side, a group and a lowering are. The answers
// that are due are worked out from the sentence's own words, on a record of the capacities that the class has no part in.
public final class SentencesTest {
    private static final int BAD = -1;
    private static final int LEAST = Integer.MIN_VALUE;
    private static final int MOST = Integer.MAX_VALUE;
    private static final int CALLS = 512;
    private static final int PRINTED = 20;

    private static int wrong = 0;
    private static int asked = 0;
    private static int wrongBefore = 0;

    private static void due(String call, long got, long want) {
        asked++;
        if (got != want) {
            wrong++;
            if (wrong - wrongBefore <= PRINTED) {
                System.out.println("  " + call + " answered " + got + ", due is " + want);
            }
        }
    }

    private static void sentence(String words, Runnable test) {
        wrongBefore = wrong;
        int askedBefore = asked;
        try {
            test.run();
        } catch (RuntimeException | StackOverflowError thrown) {
            wrong++;
            System.out.println("  a call threw " + thrown);
        }
        if (asked == askedBefore) {
            wrong++;
            System.out.println("  nothing was asked");
        }
        if (wrong != wrongBefore) {
            System.out.println("broken: " + words);
        }
    }

    private static int all(int n) {
        return (1 << n) - 1;
    }

    private static int couplesOf(int n) {
        return n * (n - 1) / 2;
    }

    private static boolean has(int set, int u) {
        return (set >> u & 1) == 1;
    }

    // ---- a network: an object, and beside it a record of the capacities that it must have

    private static final class Net {
        private final String name;
        private final int n;
        private final int[][] capacities;
        private CutTree tree;
        private int calls;

        private Net(String name, int n) {
            this.name = name + " of " + n + " points";
            this.n = n;
            capacities = new int[n][n];
            tree = new CutTree(n);
        }

        private void record(int u, int v, int c) {
            capacities[u][v] = c;
            capacities[v][u] = c;
        }

        // Nothing is due from an object after its 512th call, so a new one with the same capacities takes its place.
        private CutTree next() {
            if (calls == CALLS) {
                tree = new CutTree(n);
                calls = couplesOf(n);
                for (int u = 0; u < n; u++) {
                    for (int v = u + 1; v < n; v++) {
                        tree.connect(u, v, capacities[u][v]);
                    }
                }
            }
            calls++;
            return tree;
        }

        // The answers of connect and cap are not judged here, so that a wrong one is told under its own sentence alone.
        private Net connect(int u, int v, int c) {
            next().connect(u, v, c);
            record(u, v, c);
            return this;
        }

        private int greaterThan(int top) {
            int found = 0;
            for (int u = 0; u < n; u++) {
                for (int v = u + 1; v < n; v++) {
                    found += capacities[u][v] > top ? 1 : 0;
                }
            }
            return found;
        }

        private int cap(int top) {
            int answer = next().cap(top);
            lowerRecord(top);
            return answer;
        }

        private void lowerRecord(int top) {
            for (int u = 0; u < n; u++) {
                for (int v = 0; v < n; v++) {
                    capacities[u][v] = Math.min(capacities[u][v], top);
                }
            }
        }

        private int weight(int cut) {
            int sum = 0;
            for (int in = 0; in < n; in++) {
                for (int out = 0; out < n; out++) {
                    sum += has(cut, in) && !has(cut, out) ? capacities[in][out] : 0;
                }
            }
            return sum;
        }

        private int[] weights() {
            int[] weights = new int[all(n)];
            for (int cut = 1; cut < all(n); cut++) {
                weights[cut] = weight(cut);
            }
            return weights;
        }

        private int[][] links() {
            int[] weights = weights();
            int[][] links = new int[n][n];
            for (int u = 0; u < n; u++) {
                for (int v = 0; v < n; v++) {
                    links[u][v] = u == v ? BAD : MOST;
                    for (int cut = 1; cut < all(n); cut++) {
                        links[u][v] = has(cut, u) != has(cut, v) ? Math.min(links[u][v], weights[cut]) : links[u][v];
                    }
                }
            }
            return links;
        }
    }

    private static Net full(String name, int n, int c) {
        Net net = new Net(name, n);
        for (int u = 0; u < n; u++) {
            for (int v = u + 1; v < n; v++) {
                net.connect(u, v, c);
            }
        }
        return net;
    }

    // A different capacity, from 20 to 47, for every couple.
    private static Net differing(int n) {
        Net net = new Net("a network without equals", n);
        for (int u = 0; u < n; u++) {
            for (int v = 0; v < u; v++) {
                net.connect(u, v, 20 + couplesOf(u) + v);
            }
        }
        return net;
    }

    private static Net ring(int n, int c) {
        Net net = new Net("a ring", n);
        for (int u = 0; u < n; u++) {
            net.connect(u, (u + 1) % n, c);
        }
        return net;
    }

    private static Net line(int n, int c) {
        Net net = new Net("a line", n);
        for (int u = 1; u < n; u++) {
            net.connect(u, u - 1, c);
        }
        return net;
    }

    private static Net star(int n, int centre, int c) {
        Net net = new Net("a star around " + centre, n);
        for (int u = 0; u < n; u++) {
            if (u != centre) {
                net.connect(centre, u, c);
            }
        }
        return net;
    }

    // 50 between points on the same side of the cut, so that no other cut is as small.
    private static Net halves(int n, int cut, int across) {
        Net net = new Net("two halves, one " + cut + ", with " + across + " across,", n);
        for (int u = 0; u < n; u++) {
            for (int v = u + 1; v < n; v++) {
                net.connect(u, v, has(cut, u) == has(cut, v) ? 50 : across);
            }
        }
        return net;
    }

    // Capacities from 0 to most in a fixed order without a pattern.
    private static Net mixed(int n, int most, int seed) {
        Net net = new Net("a mixed network up to " + most + ", " + seed + ",", n);
        long state = 1000003L * seed + 31L * most + n;
        for (int u = 0; u < n; u++) {
            for (int v = u + 1; v < n; v++) {
                state = state * 6364136223846793005L + 1442695040888963407L;
                net.connect(u, v, (int) ((state >>> 33) % (most + 1)));
            }
        }
        return net;
    }

    // The network whose capacities are the digits of number to the base most + 1.
    private static Net counted(int n, int most, int number) {
        Net net = new Net("network number " + number + " up to " + most, n);
        int left = number;
        for (int u = 0; u < n; u++) {
            for (int v = u + 1; v < n; v++) {
                net.connect(u, v, left % (most + 1));
                left /= most + 1;
            }
        }
        return net;
    }

    // Every network of n points with capacities up to most: where the capacities are so small, many cuts have the same weight.
    private static void allCounted(int n, int most, Consumer<Net> test) {
        int networks = 1;
        for (int i = 0; i < couplesOf(n); i++) {
            networks *= most + 1;
        }
        for (int number = 0; number < networks; number++) {
            test.accept(counted(n, most, number));
        }
    }

    private static void allNetworks(Consumer<Net> test) {
        allCounted(2, 50, test);
        allCounted(3, 3, test);
        allCounted(4, 2, test);
        allCounted(5, 1, test);
        for (int n = 2; n <= 8; n++) {
            test.accept(new Net("a new network", n));
            test.accept(full("a network with 1", n, 1));
            test.accept(full("a network with 50", n, 50));
            test.accept(differing(n));
            test.accept(ring(n, 3));
            test.accept(line(n, 7));
            test.accept(star(n, 0, 4));
            test.accept(star(n, n - 1, 50));
            for (int seed = 1; seed <= 3; seed++) {
                test.accept(mixed(n, 1, seed));
                test.accept(mixed(n, 2, seed));
                test.accept(mixed(n, 50, seed));
            }
        }
    }

    // The test is made again on the same object after each kind of change, down to the network without capacities.
    private static Consumer<Net> changing(Consumer<Net> test) {
        return net -> {
            test.accept(net);
            net.connect(net.n - 1, 0, 9);
            test.accept(net);
            net.cap(1);
            test.accept(net);
            net.cap(0);
            test.accept(net);
        };
    }

    // ---- Terms: a capacity

    private interface Change {
        void on(CutTree x, Net record);
    }

    private static Change connecting(int u, int v, int c) {
        return (x, record) -> {
            boolean isGood = u >= 0 && v >= 0 && u < record.n && v < record.n && u != v && c >= 0 && c <= 50;
            due("connect(" + u + ", " + v + ", " + c + ") in " + record.name, x.connect(u, v, c) ? 1 : 0, isGood ? 1 : 0);
            if (isGood) {
                record.record(u, v, c);
            }
        };
    }

    private static Change capping(int top) {
        return (x, record) -> {
            x.cap(top);
            if (top >= 0) {
                record.lowerRecord(top);
            }
        };
    }

    // Connects of every couple from either end, and between them refused ones and caps, of which each lowers something.
    private static List<Change> changes(int n) {
        List<Change> changes = new ArrayList<>();
        int[] noCapacities = {51, -1, 256, MOST, LEAST};
        int step = 0;
        for (int u = 0; u < n; u++) {
            for (int v = 0; v < n; v++) {
                step++;
                changes.add(connecting(u, v, step * 13 % 51));
                changes.add(connecting(v, u, noCapacities[step % noCapacities.length]));
                if (step % 5 == 0) {
                    changes.add(connecting(n - 1, 0, 50));
                    changes.add(capping(50 - step % 43));
                    changes.add(capping(-step));
                    changes.add(capping(MOST));
                }
            }
        }
        changes.add(connecting(0, n - 1, 50));
        changes.add(connecting(0, n, 50));
        changes.add(connecting(-1, 0, 50));
        for (int top = 50; top >= 0; top -= 7) {
            changes.add(capping(top));
        }
        changes.add(connecting(1, 0, 50));
        changes.add(capping(0));
        return changes;
    }

    // Reading takes calls too, so the changes are made anew on an object of its own for each reading.
    private static void capacityBothWays() {
        for (int n = 2; n <= 8; n++) {
            List<Change> changes = changes(n);
            for (int made = 0; made <= changes.size(); made++) {
                CutTree x = new CutTree(n);
                Net record = new Net("a network after " + made + " changes", n);
                for (Change change : changes.subList(0, made)) {
                    change.on(x, record);
                }
                readBothWays(x, record);
            }
        }
    }

    private static void readBothWays(CutTree x, Net record) {
        for (int u = 0; u < record.n; u++) {
            for (int v = u + 1; v < record.n; v++) {
                String told = "(" + u + ", " + v + ") in " + record.name;
                int there = x.capacity(u, v);
                int back = x.capacity(v, u);
                due("capacity" + told, there, record.capacities[u][v]);
                due("capacity" + told + " the other way", back, there);
                due("capacity" + told + " is from 0 to 50", there >= 0 && there <= 50 ? 1 : 0, 1);
            }
        }
    }

    // ---- Terms: a weight

    private static void weightIsTheSum() {
        allNetworks(changing(SentencesTest::weighs));
        for (int n = 2; n <= 8; n++) {
            for (int u = 0; u < n; u++) {
                for (int v = u + 1; v < n; v++) {
                    Net net = new Net(u + " and " + v + " joined", n).connect(u, v, 50);
                    for (int cut = 1; cut < all(n); cut++) {
                        due("weight(" + cut + ") with " + net.name, net.next().weight(cut), has(cut, u) != has(cut, v) ? 50 : 0);
                    }
                }
            }
        }
    }

    private static void weighs(Net net) {
        for (int cut = 1; cut < all(net.n); cut++) {
            due("weight(" + cut + ") of " + net.name, net.next().weight(cut), net.weight(cut));
        }
    }

    // ---- Terms: a link

    private static void linkIsTheSmallest() {
        allNetworks(changing(SentencesTest::linked));
        for (int n = 2; n <= 8; n++) {
            for (int cut = 1; cut < all(n); cut++) {
                linkedAcross(halves(n, cut, 0), cut, 0);
                linkedAcross(halves(n, cut, 1), cut, 1);
            }
        }
        // From 0 to 3 there are three ways of two steps with 4, 6 and 8 as their least, and one straight with 2.
        Net ways = new Net("three ways", 5).connect(0, 1, 4).connect(1, 3, 9).connect(0, 2, 10).connect(2, 3, 6);
        ways.connect(0, 4, 8).connect(4, 3, 8).connect(0, 3, 2);
        due("link(0, 3) of three ways", ways.next().link(0, 3), 20);
        due("link(1, 2) of three ways", ways.next().link(1, 2), 13);
        due("link(2, 4) of three ways", ways.next().link(2, 4), 16);
    }

    private static void linked(Net net) {
        int[][] links = net.links();
        for (int u = 0; u < net.n; u++) {
            for (int v = 0; v < net.n; v++) {
                due("link(" + u + ", " + v + ") of " + net.name, net.next().link(u, v), links[u][v]);
            }
        }
    }

    private static void linkedAcross(Net net, int cut, int across) {
        int size = Integer.bitCount(cut);
        for (int u = 0; u < net.n; u++) {
            for (int v = 0; v < net.n; v++) {
                if (has(cut, u) != has(cut, v)) {
                    due("link(" + u + ", " + v + ") of " + net.name, net.next().link(u, v), across * size * (net.n - size));
                }
            }
        }
    }

    // ---- Promise 5

    private static void sideHasTheFewest() {
        allNetworks(changing(SentencesTest::sided));
        for (int n = 2; n <= 8; n++) {
            for (int cut = 1; cut < all(n); cut++) {
                sidedAcross(halves(n, cut, 1), cut);
            }
            pointsAlone(new Net("a new network", n));
            Net lowered = full("a network lowered to 0", n, 50);
            lowered.cap(0);
            pointsAlone(lowered);
            // Every cut of a ring that falls into two arcs has the same weight.
            pointsAlone(ring(n, 50));
        }
    }

    private static void sided(Net net) {
        int[] weights = net.weights();
        int[][] links = net.links();
        for (int u = 0; u < net.n; u++) {
            for (int v = 0; v < net.n; v++) {
                if (u != v) {
                    sided(net, u, v, weights, links[u][v]);
                }
            }
        }
    }

    private static void sided(Net net, int u, int v, int[] weights, int link) {
        int fewest = MOST;
        int best = 0;
        int such = 0;
        for (int cut = 1; cut < all(net.n); cut++) {
            int size = Integer.bitCount(cut);
            if (has(cut, u) && !has(cut, v) && weights[cut] == link && size <= fewest) {
                such = size == fewest ? such + 1 : 1;
                fewest = size;
                best = cut;
            }
        }
        String told = "side(" + u + ", " + v + ") of " + net.name;
        due("the number of cuts that could be " + told, such, 1);
        due(told, net.next().side(u, v), best);
    }

    private static void sidedAcross(Net net, int cut) {
        for (int u = 0; u < net.n; u++) {
            for (int v = 0; v < net.n; v++) {
                if (has(cut, u) && !has(cut, v)) {
                    due("side(" + u + ", " + v + ") of " + net.name, net.next().side(u, v), cut);
                    due("side(" + v + ", " + u + ") of " + net.name, net.next().side(v, u), all(net.n) & ~cut);
                }
            }
        }
    }

    private static void pointsAlone(Net net) {
        for (int u = 0; u < net.n; u++) {
            for (int v = 0; v < net.n; v++) {
                if (u != v) {
                    due("side(" + u + ", " + v + ") of " + net.name, net.next().side(u, v), 1 << u);
                }
            }
        }
    }

    // ---- Promise 8

    private static void groupsByLinks() {
        allNetworks(changing(SentencesTest::grouped));
        for (int n = 2; n <= 8; n++) {
            for (int cut = 1; cut < all(n); cut++) {
                // Across the cut the links are 0; inside it they are above 0, where there are two points.
                Net net = halves(n, cut, 0);
                due("groups(1) of " + net.name, net.next().groups(1), 2);
                due("groups(0) of " + net.name, net.next().groups(0), 1);
                due("groups(-1) of " + net.name, net.next().groups(-1), 1);
                due("groups(351) of " + net.name, net.next().groups(351), n);
                for (int u = 0; u < n; u++) {
                    due("group(" + u + ", 1) of " + net.name, net.next().group(u, 1), has(cut, u) ? cut : all(n) & ~cut);
                }
            }
        }
    }

    // At or below 0, on both sides of each link, and above every link.
    private static TreeSet<Integer> bounds(int[][] links) {
        TreeSet<Integer> ks = new TreeSet<>(List.of(LEAST, -1, 0, 1, MOST));
        for (int u = 0; u < links.length; u++) {
            for (int v = 0; v < u; v++) {
                ks.add(links[u][v]);
                ks.add(links[u][v] + 1);
            }
        }
        return ks;
    }

    private static void grouped(Net net) {
        int[][] links = net.links();
        for (int k : bounds(links)) {
            int want = 0;
            for (int u = 0; u < net.n; u++) {
                int group = 0;
                for (int v = 0; v < net.n; v++) {
                    group |= u == v || links[u][v] >= k ? 1 << v : 0;
                }
                // A group is counted at its lowest point alone.
                want += Integer.numberOfTrailingZeros(group) == u ? 1 : 0;
                due("group(" + u + ", " + k + ") of " + net.name, net.next().group(u, k), group);
            }
            due("groups(" + k + ") of " + net.name, net.next().groups(k), want);
        }
        due("groups(LEAST) of " + net.name, net.next().groups(LEAST), 1);
        due("groups(0) of " + net.name, net.next().groups(0), 1);
        due("groups(MOST) of " + net.name, net.next().groups(MOST), net.n);
    }

    // ---- Promise 12

    private static void capCountsGreaterOnes() {
        for (int n = 2; n <= 8; n++) {
            for (int greater = 0; greater <= couplesOf(n); greater++) {
                countsJust(n, greater, 29);
                countsJust(n, greater, 0);
            }
            for (int top = 0; top <= 51; top++) {
                countsGreater(differing(n), top);
                countsGreater(mixed(n, 50, top), top);
            }
            countsOnTheWayDown(differing(n));
            countsOnTheWayDown(full("a network with 50", n, 50));
            countsAgainAfterConnect(n);
        }
    }

    private static void countsGreater(Net net, int top) {
        int want = net.greaterThan(top);
        due("cap(" + top + ") of " + net.name, net.cap(top), want);
    }

    // The first couples, or the last ones, are one above top; the others are just at it and do not count.
    private static void countsJust(int n, int greater, int top) {
        Net first = new Net("a network with " + greater + " first ones above " + top, n);
        Net last = new Net("a network with " + greater + " last ones above " + top, n);
        int couple = 0;
        for (int u = 0; u < n; u++) {
            for (int v = u + 1; v < n; v++) {
                first.connect(u, v, couple < greater ? top + 1 : top);
                last.connect(v, u, couple >= couplesOf(n) - greater ? top + 1 : top);
                couple++;
            }
        }
        for (Net net : List.of(first, last)) {
            due("cap(" + (top + 1) + ") of " + net.name, net.cap(top + 1), 0);
            due("cap(" + top + ") of " + net.name, net.cap(top), greater);
            due("cap(" + top + ") of " + net.name + " again", net.cap(top), 0);
        }
    }

    private static void countsOnTheWayDown(Net net) {
        for (int top = 51; top >= 0; top--) {
            countsGreater(net, top);
            countsGreater(net, top);
            countsGreater(net, MOST);
        }
        due("smallest() of " + net.name + " at its end", net.next().smallest(), 0);
    }

    private static void countsAgainAfterConnect(int n) {
        Net net = full("a network raised again", n, 50);
        countsGreater(net, 10);
        for (int u = 0; u < n; u++) {
            for (int v = u + 1; v < n; v++) {
                net.connect(u, v, 11);
                due("cap(10) of " + net.name, net.cap(10), 1);
            }
        }
        countsGreater(net, 9);
    }

    public static void main(String[] args) {
        sentence("Terms: for every two different points u and v a CAPACITY from 0 to 50, the same from u to v as from v to u",
            SentencesTest::capacityBothWays);
        sentence("Terms: its WEIGHT is the sum of the capacities between points in it and points not in it", SentencesTest::weightIsTheSum);
        sentence("Terms: the LINK of u and v is the smallest weight of a cut that parts them", SentencesTest::linkIsTheSmallest);
        sentence("Promise 5: of the cuts that have u, do not have v, and have the link of u and v as their weight, the one with the fewest points",
            SentencesTest::sideHasTheFewest);
        sentence("Promise 8: points are in the same GROUP for k iff they are equal or their link is at least k", SentencesTest::groupsByLinks);
        sentence("Promise 12: answers how many couples of points had a greater one", SentencesTest::capCountsGreaterOnes);
        System.out.println(wrong == 0 ? "all " + asked + " answers are as due" : wrong + " answers are not as due");
        if (wrong != 0) {
            System.exit(1);
        }
    }
}
