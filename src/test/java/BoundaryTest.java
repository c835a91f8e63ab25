// One method for each sentence of the document that names a boundary case. A wrong answer is printed under its sentence.
public final class BoundaryTest {
    private static final int BAD = -1;
    private static final int LEAST = Integer.MIN_VALUE;
    private static final int MOST = Integer.MAX_VALUE;
    private static final int CALLS = 512;
    private static final int METHODS = 11;

    // Numbers of points below, inside and above 2..8, and the number that is due for each.
    private static final int[] POINTS = {LEAST, LEAST + 1, -8, -2, -1, 0, 1, 2, 3, 4, 5, 6, 7, 8, 9, 10, 16, 258, 65540, MOST - 1, MOST};
    private static final int[] CLAMPED = {2, 2, 2, 2, 2, 2, 2, 2, 3, 4, 5, 6, 7, 8, 8, 8, 8, 8, 8, 8, 8};
    // 255 to 257 and the like would be small numbers if they were narrowed to a byte or a short.
    private static final int[] NO_CAPACITIES = {-1, 51, -2, 52, -50, 100, 255, 256, 257, -256, 65536, 65541, LEAST, LEAST + 1, MOST - 1, MOST};
    private static final int[] BELOW_NOUGHT = {-1, -2, -50, -256, -65536, LEAST + 1, LEAST};
    private static final int[] NO_LESS_THAN_50 = {50, 51, 52, 255, 256, 257, 65536, MOST - 1, MOST};

    private static final int PRINTED = 20;

    private static int wrong = 0;
    private static int asked = 0;
    private static int wrongBefore = 0;

    private interface Call {
        int ask(CutTree x);
    }

    private interface CallOfTwo {
        int ask(CutTree x, int u, int v);
    }

    private static void due(String call, long got, long want) {
        asked++;
        if (got != want) {
            wrong++;
            if (wrong - wrongBefore <= PRINTED) {
                System.out.println("  " + call + " answered " + got + ", due is " + want);
            }
        }
    }

    private static void due(String call, boolean got, boolean want) {
        due(call, got ? 1L : 0L, want ? 1L : 0L);
    }

    private static void sentence(String words, Runnable test) {
        wrongBefore = wrong;
        int askedBefore = asked;
        try {
            test.run();
        } catch (RuntimeException | StackOverflowError thrown) {
            wrong++;
            System.out.println("  a call threw " + thrown);
        }
        if (asked == askedBefore) {
            wrong++;
            System.out.println("  nothing was asked");
        }
        if (wrong != wrongBefore) {
            System.out.println("broken: " + words);
        }
    }

    // ---- networks

    private static int all(int n) {
        return (1 << n) - 1;
    }

    private static int couplesOf(int n) {
        return n * (n - 1) / 2;
    }

    // A different capacity, from 20 to 47, for every couple.
    private static int different(int u, int v) {
        int low = Math.min(u, v);
        int high = Math.max(u, v);
        return 20 + high * (high - 1) / 2 + low;
    }

    private static CutTree differing(int n) {
        CutTree x = new CutTree(n);
        for (int u = 0; u < n; u++) {
            for (int v = u + 1; v < n; v++) {
                x.connect(u, v, different(u, v));
            }
        }
        return x;
    }

    private static CutTree full(int n, int capacity) {
        CutTree x = new CutTree(n);
        for (int u = 0; u < n; u++) {
            for (int v = u + 1; v < n; v++) {
                x.connect(u, v, capacity);
            }
        }
        return x;
    }

    private static CutTree line(int n, int capacity) {
        CutTree x = new CutTree(n);
        for (int u = 0; u + 1 < n; u++) {
            x.connect(u, u + 1, capacity);
        }
        return x;
    }

    // Small capacities in a fixed order without a pattern, so that many cuts have the same weight.
    private static CutTree even(int n, int seed) {
        CutTree x = new CutTree(n);
        long state = 77777L * seed + n;
        for (int u = 0; u < n; u++) {
            for (int v = u + 1; v < n; v++) {
                state = state * 6364136223846793005L + 1442695040888963407L;
                x.connect(u, v, (int) ((state >>> 33) % 3));
            }
        }
        return x;
    }

    private static final int KINDS = 9;

    private static CutTree network(int kind, int n) {
        switch (kind) {
            case 0: return new CutTree(n);
            case 1: return full(n, 50);
            case 2: return differing(n);
            case 3: return line(n, 7);
            case 4: return full(n, 1);
            default: return even(n, kind);
        }
    }

    // Numbers that are no point, those just outside first. Times 8, or as a shift, the others would come out as a point's.
    private static int[] noPoints(int n) {
        return new int[] {
            -1, n, n + 1, -2, -n, 8, 9, 31, 32, 31 + n, 64, 256, -8, -32, 65536, 1 << 29, (1 << 29) + 1, LEAST, LEAST + 1, MOST - 1, MOST};
    }

    // The object answers all things as its twin does, which has had the same calls but for the refused one.
    private static void unchanged(String after, CutTree x, CutTree twin, int n) {
        due("after " + after + ": group(0, LEAST)", x.group(0, LEAST), all(n));
        due("after " + after + ": smallest()", x.smallest(), twin.smallest());
        due("after " + after + ": total()", x.total(), twin.total());
        for (int u = 0; u < n; u++) {
            due("after " + after + ": weight(" + (1 << u) + ")", x.weight(1 << u), twin.weight(1 << u));
            for (int v = 0; v < n; v++) {
                due("after " + after + ": capacity(" + u + ", " + v + ")", x.capacity(u, v), twin.capacity(u, v));
            }
        }
    }

    // A refused call answers what is due, and nothing has changed after it.
    private static void refused(String name, int n, int want, Call call) {
        CutTree x = differing(n);
        String told = name + " of " + n + " points";
        due(told, call.ask(x), want);
        unchanged(told, x, differing(n), n);
    }

    private static void refusedForNoCouple(String name, int want, CallOfTwo call) {
        for (int n = 2; n <= 8; n++) {
            for (int bad : noPoints(n)) {
                for (int other : new int[] {0, 1, n - 1, n, -1, bad}) {
                    refused(name + "(" + bad + ", " + other + ")", n, want, x -> call.ask(x, bad, other));
                    refused(name + "(" + other + ", " + bad + ")", n, want, x -> call.ask(x, other, bad));
                }
            }
            for (int u = 0; u < n; u++) {
                int point = u;
                refused(name + "(" + u + ", " + u + ")", n, want, x -> call.ask(x, point, point));
            }
        }
    }

    // ---- What it is

    private static String nameOf(int method) {
        String[] names = {"connect", "capacity", "link", "side", "smallest", "couples", "groups", "group", "weight", "total", "cap"};
        return names[method];
    }

    private static int call(CutTree x, int method, int u, int v, int number) {
        switch (method) {
            case 0: return x.connect(u, v, number) ? 1 : 0;
            case 1: return x.capacity(u, v);
            case 2: return x.link(u, v);
            case 3: return x.side(u, v);
            case 4: return x.smallest();
            case 5: return x.couples(number);
            case 6: return x.groups(number);
            case 7: return x.group(u, number);
            case 8: return x.weight(number);
            case 9: return x.total();
            default: return x.cap(number);
        }
    }

    // Sets the couples of n points in turn, with capacities that change from one turn to the next.
    private static void connectInTurn(CutTree x, int n, int from, int to) {
        for (int i = from; i < to; i++) {
            int couple = i % couplesOf(n);
            int v = 1;
            while (couple >= v) {
                couple -= v;
                v++;
            }
            due("call " + (i + 1) + ": connect(" + couple + ", " + v + ", " + i % 51 + ")", x.connect(couple, v, i % 51), true);
        }
    }

    // The last allowed call of each kind answers as on an object that is young, but has the same capacities.
    private static void lastCallAfterConnects() {
        for (int n = 2; n <= 8; n++) {
            for (int method = 0; method < METHODS; method++) {
                CutTree old = new CutTree(n);
                connectInTurn(old, n, 0, CALLS - 1);
                CutTree young = new CutTree(n);
                connectInTurn(young, n, CALLS - 1 - couplesOf(n), CALLS - 1);
                due("call 512: " + nameOf(method), call(old, method, n - 1, 0, 2), call(young, method, n - 1, 0, 2));
            }
        }
    }

    private static void lastCallSetsAndLowers() {
        CutTree x = new CutTree(8);
        connectInTurn(x, 8, 0, CALLS - 2);
        due("call 511: connect(6, 7, 50)", x.connect(6, 7, 50), true);
        due("call 512: capacity(7, 6)", x.capacity(7, 6), 50);
        CutTree y = full(8, 50);
        for (int i = 28; i < CALLS - 1; i++) {
            due("call " + (i + 1) + ": cap(50)", y.cap(50), 0);
        }
        due("call 512: cap(49)", y.cap(49), 28);
    }

    // No kind of call wears out: the 512th answers as the first, for good arguments and for refused ones.
    private static void sameCallAllAlong() {
        int[][] arguments = {{0, 1, 1}, {1, 0, 0}, {-1, 2, -1}, {0, 2, MOST}, {LEAST, MOST, LEAST}};
        for (int method = 0; method < METHODS; method++) {
            for (int[] a : arguments) {
                CutTree x = new CutTree(3);
                int first = call(x, method, a[0], a[1], a[2]);
                for (int i = 2; i <= CALLS; i++) {
                    due("call " + i + ": " + nameOf(method), call(x, method, a[0], a[1], a[2]), first);
                }
            }
        }
    }

    // What later calls answer is free, but LANGUAGE.md forbids that one ever throws.
    private static void laterCallsEnd() {
        int[] numbers = {LEAST, -1, 0, 1, 7, 8, 50, 51, 255, 256, MOST};
        CutTree x = differing(8);
        for (int method = 0; method < METHODS; method++) {
            for (int u : numbers) {
                for (int v : numbers) {
                    call(x, method, u, v, u ^ v);
                }
            }
        }
    }

    private static void used512Times() {
        lastCallAfterConnects();
        lastCallSetsAndLowers();
        sameCallAllAlong();
        laterCallsEnd();
    }

    // ---- Terms

    private static void pointsFrom0() {
        for (int n = 2; n <= 8; n++) {
            CutTree x = differing(n);
            int sets = 0;
            for (int u = 0; u < n; u++) {
                due("group(" + u + ", MOST) of " + n + " points", x.group(u, MOST), 1 << u);
                int v = (u + 1) % n;
                due("connect(" + u + ", " + v + ", 1) of " + n + " points", x.connect(u, v, 1), true);
                due("side(" + u + ", " + v + ") has its point", x.side(u, v) >> u & 1, 1);
                due("weight(" + (1 << u) + ") is one of a cut", x.weight(1 << u) >= 0, true);
                sets |= x.group(u, LEAST);
            }
            due("the groups of " + n + " points together", sets, all(n));
            due("groups(MOST) of " + n + " points", x.groups(MOST), n);
            due("couples(LEAST) of " + n + " points", x.couples(LEAST), couplesOf(n));
            due("group(-1, LEAST) of " + n + " points", x.group(-1, LEAST), BAD);
            due("group(" + n + ", LEAST) of " + n + " points", x.group(n, LEAST), BAD);
            due("capacity(" + n + ", 0) of " + n + " points", x.capacity(n, 0), BAD);
            due("weight(" + (1 << n) + ") of " + n + " points", x.weight(1 << n), BAD);
        }
    }

    private static void capacityFrom0To50BothWays() {
        for (int n = 2; n <= 8; n++) {
            for (int u = 0; u < n; u++) {
                for (int v = 0; v < n; v++) {
                    if (u != v) {
                        eachCapacity(n, u, v);
                    }
                }
            }
        }
    }

    private static void eachCapacity(int n, int u, int v) {
        CutTree x = new CutTree(n);
        String couple = "(" + u + ", " + v + ") of " + n + " points";
        for (int c = 0; c <= 50; c++) {
            due("connect " + couple + " with " + c, x.connect(u, v, c), true);
            due("capacity" + couple, x.capacity(u, v), c);
            due("capacity" + couple + " the other way", x.capacity(v, u), c);
            due("weight(" + (1 << u) + ")", x.weight(1 << u), c);
            due("weight(" + (1 << v) + ")", x.weight(1 << v), c);
        }
        due("connect " + couple + " with 51", x.connect(u, v, 51), false);
        due("connect " + couple + " with -1", x.connect(u, v, -1), false);
        due("capacity" + couple + " after 51 and -1", x.capacity(u, v), 50);
        due("capacity" + couple + " the other way after 51 and -1", x.capacity(v, u), 50);
        for (int a = 0; a < n; a++) {
            for (int b = 0; b < n; b++) {
                boolean isSet = a == u && b == v || a == v && b == u;
                due("capacity(" + a + ", " + b + ") after " + couple, x.capacity(a, b), a == b ? BAD : isSet ? 50 : 0);
            }
        }
    }

    // The empty set and the set of all points would weigh 0 and be the smallest everywhere if they counted as cuts.
    private static void cutIsNeitherEmptyNorAll() {
        for (int n = 2; n <= 8; n++) {
            CutTree x = full(n, 1);
            due("weight(0) of " + n + " points", x.weight(0), BAD);
            due("weight of all " + n + " points", x.weight(all(n)), BAD);
            due("smallest() of " + n + " points", x.smallest(), n - 1);
            due("total() of " + n + " points", x.total(), couplesOf(n) * (n - 1));
            for (int u = 0; u < n; u++) {
                due("weight of just " + u, x.weight(1 << u), n - 1);
                due("weight of all but " + u, x.weight(all(n) ^ 1 << u), n - 1);
            }
            CutTree unjoined = new CutTree(n);
            for (int u = 0; u < n; u++) {
                for (int v = 0; v < n; v++) {
                    if (u != v) {
                        due("link(" + u + ", " + v + ") of " + n + " points", x.link(u, v), n - 1);
                        due("side(" + u + ", " + v + ") of unjoined points", unjoined.side(u, v), 1 << u);
                    }
                }
            }
        }
    }

    // ---- Promise 1

    private static void pointsClamped() {
        for (int i = 0; i < POINTS.length; i++) {
            CutTree x = new CutTree(POINTS[i]);
            int n = CLAMPED[i];
            String of = " of new CutTree(" + POINTS[i] + ")";
            due("groups(MOST)" + of, x.groups(MOST), n);
            due("couples(LEAST)" + of, x.couples(LEAST), couplesOf(n));
            due("group(0, LEAST)" + of, x.group(0, LEAST), all(n));
            due("group(n-1, LEAST)" + of, x.group(n - 1, LEAST), all(n));
            due("group(n, LEAST)" + of, x.group(n, LEAST), BAD);
            due("connect(0, n, 1)" + of, x.connect(0, n, 1), false);
            due("connect(0, n-1, 1)" + of, x.connect(0, n - 1, 1), true);
            due("weight of all but one" + of, x.weight(all(n) - 1), 1);
            due("weight of all" + of, x.weight(all(n)), BAD);
        }
    }

    private static void capacitiesAre0() {
        for (int i = 0; i < POINTS.length; i++) {
            // Another object that has capacities must not lend them to a new one.
            full(8, 50);
            CutTree x = new CutTree(POINTS[i]);
            int n = CLAMPED[i];
            String of = " of new CutTree(" + POINTS[i] + ")";
            for (int u = 0; u < n; u++) {
                due("weight(" + (1 << u) + ")" + of, x.weight(1 << u), 0);
                for (int v = 0; v < n; v++) {
                    due("capacity(" + u + ", " + v + ")" + of, x.capacity(u, v), u == v ? BAD : 0);
                    due("link(" + u + ", " + v + ")" + of, x.link(u, v), u == v ? BAD : 0);
                }
            }
            due("smallest()" + of, x.smallest(), 0);
            due("total()" + of, x.total(), 0);
            due("couples(1)" + of, x.couples(1), 0);
            due("cap(0)" + of, x.cap(0), 0);
        }
    }

    // ---- Promise 2

    private static void connectRefuses() {
        refusedForNoCouple("connect with 5", 0, (x, u, v) -> x.connect(u, v, 5) ? 1 : 0);
        refusedForNoCouple("connect with 51", 0, (x, u, v) -> x.connect(u, v, 51) ? 1 : 0);
        for (int n = 2; n <= 8; n++) {
            int last = n - 1;
            for (int c : NO_CAPACITIES) {
                refused("connect(0, " + last + ", " + c + ")", n, 0, x -> x.connect(0, last, c) ? 1 : 0);
                refused("connect(1, 0, " + c + ")", n, 0, x -> x.connect(1, 0, c) ? 1 : 0);
            }
        }
    }

    private static void connectElseTrue() {
        for (int n = 2; n <= 8; n++) {
            for (int u = 0; u < n; u++) {
                for (int v = 0; v < n; v++) {
                    if (u != v) {
                        connectsOneCouple(n, u, v);
                    }
                }
            }
        }
    }

    private static void connectsOneCouple(int n, int u, int v) {
        for (int c : new int[] {0, 1, 49, 50}) {
            CutTree x = differing(n);
            String told = "connect(" + u + ", " + v + ", " + c + ") of " + n + " points";
            due(told, x.connect(u, v, c), true);
            due(told + " again", x.connect(u, v, c), true);
            for (int a = 0; a < n; a++) {
                for (int b = 0; b < n; b++) {
                    boolean isSet = a == u && b == v || a == v && b == u;
                    due("after " + told + ": capacity(" + a + ", " + b + ")", x.capacity(a, b), a == b ? BAD : isSet ? c : different(a, b));
                }
            }
        }
    }

    // ---- Promises 3 to 5

    private static void capacityBad() {
        refusedForNoCouple("capacity", BAD, (x, u, v) -> x.capacity(u, v));
        for (int n = 2; n <= 8; n++) {
            CutTree x = differing(n);
            for (int u = 0; u < n; u++) {
                for (int v = 0; v < n; v++) {
                    due("capacity(" + u + ", " + v + ") of " + n + " points", x.capacity(u, v), u == v ? BAD : different(u, v));
                }
            }
        }
    }

    private static void linkBad() {
        refusedForNoCouple("link", BAD, (x, u, v) -> x.link(u, v));
        for (int n = 2; n <= 8; n++) {
            CutTree none = new CutTree(n);
            CutTree most = full(n, 50);
            for (int u = 0; u < n; u++) {
                for (int v = 0; v < n; v++) {
                    String told = "link(" + u + ", " + v + ") of " + n + " points";
                    due(told + " with 0", none.link(u, v), u == v ? BAD : 0);
                    due(told + " with 50", most.link(u, v), u == v ? BAD : 50 * (n - 1));
                }
            }
        }
    }

    private static void sideBadOrFewest() {
        refusedForNoCouple("side", BAD, (x, u, v) -> x.side(u, v));
        for (int n = 2; n <= 8; n++) {
            for (int kind = 0; kind < KINDS; kind++) {
                justOneFewest(kind, n);
            }
            CutTree x = line(n, 50);
            for (int u = 0; u < n; u++) {
                for (int v = 0; v < n; v++) {
                    int upTo = all(u + 1);
                    int from = all(n) & ~all(u);
                    int want = u == v ? BAD : u < v ? upTo : from;
                    due("side(" + u + ", " + v + ") of a line of " + n, x.side(u, v), want);
                }
            }
            allButOne(n);
        }
    }

    private static void justOneFewest(int kind, int n) {
        CutTree x = network(kind, n);
        int[] weights = new int[all(n)];
        for (int cut = 1; cut < all(n); cut++) {
            weights[cut] = x.weight(cut);
        }
        for (int u = 0; u < n; u++) {
            for (int v = 0; v < n; v++) {
                if (u == v) {
                    continue;
                }
                int least = MOST;
                for (int cut = 1; cut < all(n); cut++) {
                    boolean parts = (cut >> u & 1) != (cut >> v & 1);
                    least = parts ? Math.min(least, weights[cut]) : least;
                }
                int fewest = MOST;
                int best = 0;
                int found = 0;
                for (int cut = 1; cut < all(n); cut++) {
                    int size = Integer.bitCount(cut);
                    if ((cut >> u & 1) == 0 || (cut >> v & 1) == 1 || weights[cut] != least || size > fewest) {
                        continue;
                    }
                    found = size < fewest ? 1 : found + 1;
                    fewest = size;
                    best = cut;
                }
                String told = "side(" + u + ", " + v + ") of network " + kind + " with " + n + " points";
                due("the number of cuts for " + told, found, 1);
                due(told, x.side(u, v), best);
            }
        }
    }

    // The greatest side there can be: all points but one, which hangs on the others by a thread.
    private static void allButOne(int n) {
        for (int alone = 0; alone < n; alone++) {
            CutTree x = full(n, 50);
            int near = (alone + 1) % n;
            for (int v = 0; v < n; v++) {
                x.connect(alone, v, v == near ? 1 : 0);
            }
            for (int u = 0; u < n; u++) {
                if (u != alone) {
                    String of = " of " + n + " points with " + alone + " alone";
                    due("side(" + u + ", " + alone + ")" + of, x.side(u, alone), all(n) ^ 1 << alone);
                    due("side(" + alone + ", " + u + ")" + of, x.side(alone, u), 1 << alone);
                }
            }
        }
    }

    // ---- Promise 6

    private static void smallestOfAnyCut() {
        for (int n = 2; n <= 8; n++) {
            due("smallest() of " + n + " new points", new CutTree(n).smallest(), 0);
            due("smallest() of " + n + " points with 50", full(n, 50).smallest(), 50 * (n - 1));
            for (int cut = 1; cut < all(n); cut++) {
                int size = Integer.bitCount(cut);
                String of = " with the cut " + cut + " of " + n + " points";
                due("smallest()" + of + " at 0", halves(n, cut, 0).smallest(), 0);
                due("smallest()" + of + " at 1", halves(n, cut, 1).smallest(), size * (n - size));
            }
        }
    }

    // 50 between points on the same side of the cut, so that it is the smallest one.
    private static CutTree halves(int n, int cut, int across) {
        CutTree x = new CutTree(n);
        for (int u = 0; u < n; u++) {
            for (int v = u + 1; v < n; v++) {
                boolean parts = (cut >> u & 1) != (cut >> v & 1);
                x.connect(u, v, parts ? across : 50);
            }
        }
        return x;
    }

    // ---- Promises 7 to 9

    // Every link of the network, just below it and just above it, and the ends of int.
    private static java.util.Set<Integer> bounds(int kind, int n) {
        java.util.Set<Integer> ks = new java.util.TreeSet<>(java.util.List.of(
            LEAST, LEAST + 1, -65536, -256, -2, -1, 0, 1, 349, 350, 351, 1400, 1401, 65536, MOST - 1, MOST));
        CutTree x = network(kind, n);
        for (int u = 0; u < n; u++) {
            for (int v = u + 1; v < n; v++) {
                int link = x.link(u, v);
                ks.addAll(java.util.List.of(link - 1, link, link + 1));
            }
        }
        return ks;
    }

    private static void couplesForAnyInt() {
        for (int n = 2; n <= 8; n++) {
            for (int kind = 0; kind < KINDS; kind++) {
                for (int k : bounds(kind, n)) {
                    CutTree x = network(kind, n);
                    int want = 0;
                    for (int u = 0; u < n; u++) {
                        for (int v = u + 1; v < n; v++) {
                            want += x.link(u, v) >= k ? 1 : 0;
                        }
                    }
                    due("couples(" + k + ") of network " + kind + " with " + n + " points", x.couples(k), want);
                }
            }
            int every = couplesOf(n);
            CutTree none = new CutTree(n);
            CutTree most = full(n, 50);
            int link = 50 * (n - 1);
            int[] ks = {LEAST, -1, 0, 1, link - 1, link, link + 1, MOST};
            int[] ofNone = {every, every, every, 0, 0, 0, 0, 0};
            int[] ofMost = {every, every, every, every, every, every, 0, 0};
            for (int i = 0; i < ks.length; i++) {
                due("couples(" + ks[i] + ") of " + n + " new points", none.couples(ks[i]), ofNone[i]);
                due("couples(" + ks[i] + ") of " + n + " points with 50", most.couples(ks[i]), ofMost[i]);
            }
        }
    }

    private static void alwaysMakesGroups() {
        for (int n = 2; n <= 8; n++) {
            for (int kind = 0; kind < KINDS; kind++) {
                for (int k : bounds(kind, n)) {
                    makesGroups(kind, n, k);
                }
            }
            CutTree none = new CutTree(n);
            CutTree most = full(n, 50);
            int link = 50 * (n - 1);
            int[] ks = {LEAST, -1, 0, 1, link - 1, link, link + 1, MOST};
            int[] ofNone = {1, 1, 1, n, n, n, n, n};
            int[] ofMost = {1, 1, 1, 1, 1, 1, n, n};
            for (int i = 0; i < ks.length; i++) {
                due("groups(" + ks[i] + ") of " + n + " new points", none.groups(ks[i]), ofNone[i]);
                due("groups(" + ks[i] + ") of " + n + " points with 50", most.groups(ks[i]), ofMost[i]);
            }
        }
    }

    // Counts the points that no lower point shares a group with, straight from the links.
    private static void makesGroups(int kind, int n, int k) {
        CutTree x = network(kind, n);
        String of = " of network " + kind + " with " + n + " points";
        int[] groups = new int[n];
        int want = 0;
        for (int u = 0; u < n; u++) {
            groups[u] = 1 << u;
            for (int v = 0; v < n; v++) {
                groups[u] |= u != v && x.link(u, v) >= k ? 1 << v : 0;
            }
            want += Integer.numberOfTrailingZeros(groups[u]) == u ? 1 : 0;
        }
        for (int u = 0; u < n; u++) {
            int got = x.group(u, k);
            due("group(" + u + ", " + k + ")" + of, got, groups[u]);
            for (int v = 0; v < n; v++) {
                int shared = got & groups[v];
                due("group(" + u + ", " + k + ") and that of " + v + of, shared == 0 || groups[v] == got, true);
            }
        }
        due("groups(" + k + ")" + of, x.groups(k), want);
    }

    private static void groupBad() {
        int[] ks = {LEAST, -1, 0, 1, 350, 351, MOST};
        for (int n = 2; n <= 8; n++) {
            for (int k : ks) {
                for (int bad : noPoints(n)) {
                    refused("group(" + bad + ", " + k + ")", n, BAD, x -> x.group(bad, k));
                }
                CutTree x = full(n, 50);
                for (int u = 0; u < n; u++) {
                    int want = k <= 50 * (n - 1) ? all(n) : 1 << u;
                    due("group(" + u + ", " + k + ") of " + n + " points with 50", x.group(u, k), want);
                }
            }
        }
    }

    // ---- Promise 10

    private static void weightBad() {
        for (int n = 2; n <= 8; n++) {
            int a = all(n);
            // Numbers whose lower bits are a cut's are no cuts either.
            int[] noCuts = {0, a, a + 1, a + 2, -1, -2, -a, 2 * a, 256, 257, 65536, 65537, 1 << 30, (1 << 30) + 1, LEAST, LEAST + 1, MOST - 1, MOST};
            for (int bad : noCuts) {
                refused("weight(" + bad + ")", n, BAD, x -> x.weight(bad));
            }
            for (int u = 0; u < n; u++) {
                int inside = 1 << u;
                int outside = inside | 1 << n;
                int below = inside | LEAST;
                refused("weight(" + outside + ")", n, BAD, x -> x.weight(outside));
                refused("weight(" + below + ")", n, BAD, x -> x.weight(below));
            }
            CutTree none = new CutTree(n);
            CutTree most = full(n, 50);
            for (int cut = 1; cut < a; cut++) {
                int size = Integer.bitCount(cut);
                due("weight(" + cut + ") of " + n + " new points", none.weight(cut), 0);
                due("weight(" + cut + ") of " + n + " points with 50", most.weight(cut), 50 * size * (n - size));
            }
        }
    }

    // ---- Promise 11

    private static void totalOfAllCouples() {
        for (int n = 2; n <= 8; n++) {
            due("total() of " + n + " new points", new CutTree(n).total(), 0);
            due("total() of " + n + " points with 50", full(n, 50).total(), couplesOf(n) * 50 * (n - 1));
            due("total() of a line of " + n, line(n, 50).total(), couplesOf(n) * 50);
            for (int u = 0; u < n; u++) {
                for (int v = 0; v < n; v++) {
                    CutTree x = new CutTree(n);
                    x.connect(u, v, 50);
                    due("total() with " + u + " and " + v + " of " + n + " joined", x.total(), u == v ? 0 : 50);
                }
            }
        }
    }

    // ---- Promise 12

    private static void capLowersOrBad() {
        for (int n = 2; n <= 8; n++) {
            for (int top : BELOW_NOUGHT) {
                refused("cap(" + top + ")", n, BAD, x -> x.cap(top));
                due("cap(" + top + ") of " + n + " new points", new CutTree(n).cap(top), BAD);
            }
            for (int top = 0; top <= 50; top++) {
                lowers(n, top);
            }
            for (int top : NO_LESS_THAN_50) {
                lowers(n, top);
                due("cap(" + top + ") of " + n + " points with 50", full(n, 50).cap(top), 0);
            }
            due("cap(49) of " + n + " points with 50", full(n, 50).cap(49), couplesOf(n));
            due("cap(0) of " + n + " points with 1", full(n, 1).cap(0), couplesOf(n));
            due("cap(0) of " + n + " new points", new CutTree(n).cap(0), 0);
            due("cap(1) of " + n + " points with 1", full(n, 1).cap(1), 0);
            for (int u = 0; u < n; u++) {
                for (int v = u + 1; v < n; v++) {
                    lowersOne(n, u, v);
                }
            }
        }
    }

    private static void lowers(int n, int top) {
        CutTree x = differing(n);
        int want = 0;
        for (int u = 0; u < n; u++) {
            for (int v = u + 1; v < n; v++) {
                want += different(u, v) > top ? 1 : 0;
            }
        }
        String told = "cap(" + top + ") of " + n + " points";
        due(told, x.cap(top), want);
        for (int u = 0; u < n; u++) {
            for (int v = 0; v < n; v++) {
                due("after " + told + ": capacity(" + u + ", " + v + ")", x.capacity(u, v), u == v ? BAD : Math.min(top, different(u, v)));
            }
        }
        due(told + " again", x.cap(top), 0);
    }

    private static void lowersOne(int n, int u, int v) {
        CutTree x = new CutTree(n);
        x.connect(u, v, 50);
        String of = " with " + u + " and " + v + " of " + n + " joined";
        due("cap(51)" + of, x.cap(51), 0);
        due("cap(50)" + of, x.cap(50), 0);
        due("cap(49)" + of, x.cap(49), 1);
        due("link after cap(49)" + of, x.link(u, v), 49);
        due("cap(-1)" + of, x.cap(-1), BAD);
        due("link after cap(-1)" + of, x.link(u, v), 49);
        due("cap(0)" + of, x.cap(0), 1);
        due("total() after cap(0)" + of, x.total(), 0);
    }

    public static void main(String[] args) {
        sentence("What it is: An object is used for at most 512 calls after it has been made", BoundaryTest::used512Times);
        sentence("Terms: There are n POINTS (2 to 8), numbered from 0", BoundaryTest::pointsFrom0);
        sentence("Terms: a CAPACITY from 0 to 50, the same from u to v as from v to u", BoundaryTest::capacityFrom0To50BothWays);
        sentence("Terms: A CUT is a set of points that is neither empty nor all of them", BoundaryTest::cutIsNeitherEmptyNorAll);
        sentence("Promise 1: n is points clamped into 2..8.", BoundaryTest::pointsClamped);
        sentence("Promise 1: All capacities are 0.", BoundaryTest::capacitiesAre0);
        sentence("Promise 2: u or v outside 0..n-1, u = v, or capacity outside 0..50: refused, answers false.", BoundaryTest::connectRefuses);
        sentence("Promise 2: Else true.", BoundaryTest::connectElseTrue);
        sentence("Promise 3: BAD if u or v is outside 0..n-1 or u = v.", BoundaryTest::capacityBad);
        sentence("Promise 4: BAD if u or v is outside 0..n-1 or u = v.", BoundaryTest::linkBad);
        sentence("Promise 5: the one with the fewest points (there is just one such); BAD if u or v is outside 0..n-1 or u = v.",
            BoundaryTest::sideBadOrFewest);
        sentence("Promise 6: The smallest weight of any cut.", BoundaryTest::smallestOfAnyCut);
        sentence("Promise 7: whose link is at least k (any int).", BoundaryTest::couplesForAnyInt);
        sentence("Promise 8: in the same GROUP for k iff they are equal or their link is at least k (this always makes groups)",
            BoundaryTest::alwaysMakesGroups);
        sentence("Promise 9: BAD for u outside 0..n-1.", BoundaryTest::groupBad);
        sentence("Promise 10: BAD for a number that is no cut.", BoundaryTest::weightBad);
        sentence("Promise 11: The sum of the links of all couples of different points.", BoundaryTest::totalOfAllCouples);
        sentence("Promise 12: Lowers every capacity to at most top (any int not below 0; below 0: BAD, and nothing changes)",
            BoundaryTest::capLowersOrBad);
        System.out.println(wrong == 0 ? "all " + asked + " answers are as due" : wrong + " answers are not as due");
        if (wrong != 0) {
            System.exit(1);
        }
    }
}
