// One method for each promise of the document: ordinary inputs, the edges that it names, and wrong inputs.
public final class PromisesTest {
    private static final int LEAST = Integer.MIN_VALUE;
    private static final int MOST = Integer.MAX_VALUE;

    private static int wrong = 0;

    private static void due(String call, long got, long want) {
        if (got != want) {
            wrong++;
            System.out.println(call + " answered " + got + ", due is " + want);
        }
    }

    private static void due(String call, boolean got, boolean want) {
        due(call, got ? 1L : 0L, want ? 1L : 0L);
    }

    // Two triangles, {0, 1, 2} with 10 each and {3, 4, 5} with 20 each, joined by 2-3 with 4.
    private static CutTree triangles() {
        CutTree x = new CutTree(6);
        x.connect(0, 1, 10);
        x.connect(1, 2, 10);
        x.connect(0, 2, 10);
        x.connect(3, 4, 20);
        x.connect(4, 5, 20);
        x.connect(3, 5, 20);
        x.connect(2, 3, 4);
        return x;
    }

    private static CutTree full(int points, int capacity) {
        CutTree x = new CutTree(points);
        for (int u = 0; u < points; u++) {
            for (int v = u + 1; v < points; v++) {
                x.connect(u, v, capacity);
            }
        }
        return x;
    }

    // The numbers that are no point of a network of n points.
    private static int[] noPoints(int n) {
        return new int[] {-1, n, n + 1, 8, 9, 31, 32, 33, 64, -8, -32, LEAST, MOST};
    }

    private static void newObject() {
        int[] points = {LEAST, -1, 0, 1, 2, 3, 4, 5, 6, 7, 8, 9, 100, MOST};
        int[] clamped = {2, 2, 2, 2, 2, 3, 4, 5, 6, 7, 8, 8, 8, 8};
        for (int i = 0; i < points.length; i++) {
            CutTree x = new CutTree(points[i]);
            int n = clamped[i];
            String at = "new CutTree(" + points[i] + "): ";
            due(at + "group(0, 0)", x.group(0, 0), (1 << n) - 1);
            due(at + "group(n-1, 1)", x.group(n - 1, 1), 1 << (n - 1));
            due(at + "group(n, 0)", x.group(n, 0), CutTree.BAD);
            due(at + "groups(1)", x.groups(1), n);
            due(at + "total()", x.total(), 0);
            for (int u = 0; u < n; u++) {
                for (int v = 0; v < n; v++) {
                    due(at + "capacity(" + u + ", " + v + ")", x.capacity(u, v), u == v ? CutTree.BAD : 0);
                }
            }
        }
        CutTree one = new CutTree(3);
        CutTree other = new CutTree(3);
        one.connect(0, 1, 7);
        due("capacity(0, 1) of another object", other.capacity(0, 1), 0);
    }

    private static void connect() {
        CutTree x = new CutTree(4);
        due("connect(0, 3, 50)", x.connect(0, 3, 50), true);
        due("capacity(0, 3) after it", x.capacity(0, 3), 50);
        due("connect(3, 0, 9)", x.connect(3, 0, 9), true);
        due("capacity(0, 3) is set from either end", x.capacity(0, 3), 9);
        due("capacity(3, 0) is set from either end", x.capacity(3, 0), 9);
        due("connect(0, 3, 9) again", x.connect(0, 3, 9), true);
        due("connect(2, 1, 0)", x.connect(2, 1, 0), true);
        due("connect(2, 1, 1)", x.connect(2, 1, 1), true);
        int[] badCapacities = {-1, 51, 100, LEAST, MOST};
        for (int capacity : badCapacities) {
            due("connect(0, 3, " + capacity + ")", x.connect(0, 3, capacity), false);
        }
        for (int bad : noPoints(4)) {
            due("connect(" + bad + ", 0, 5)", x.connect(bad, 0, 5), false);
            due("connect(0, " + bad + ", 5)", x.connect(0, bad, 5), false);
            due("connect(" + bad + ", " + bad + ", 5)", x.connect(bad, bad, 5), false);
        }
        for (int u = 0; u < 4; u++) {
            due("connect(" + u + ", " + u + ", 5)", x.connect(u, u, 5), false);
        }
        due("capacity(0, 3) after refusals", x.capacity(0, 3), 9);
        due("capacity(1, 2) after refusals", x.capacity(1, 2), 1);
        due("weight(1) after refusals", x.weight(1), 9);
        due("weight(2) after refusals", x.weight(2), 1);
        due("total() after refusals", x.total(), 10);
        due("connect(0, 3, 0)", x.connect(0, 3, 0), true);
        due("capacity(0, 3) back at 0", x.capacity(0, 3), 0);
    }

    private static void capacity() {
        CutTree x = new CutTree(8);
        int next = 1;
        for (int u = 0; u < 8; u++) {
            for (int v = u + 1; v < 8; v++) {
                x.connect(u, v, next++);
            }
        }
        next = 1;
        for (int u = 0; u < 8; u++) {
            for (int v = u + 1; v < 8; v++) {
                due("capacity(" + u + ", " + v + ")", x.capacity(u, v), next);
                due("capacity(" + v + ", " + u + ")", x.capacity(v, u), next);
                next++;
            }
            due("capacity(" + u + ", " + u + ")", x.capacity(u, u), CutTree.BAD);
        }
        for (int n = 2; n <= 8; n++) {
            CutTree y = full(n, 3);
            for (int bad : noPoints(n)) {
                due("capacity(" + bad + ", 0)", y.capacity(bad, 0), CutTree.BAD);
                due("capacity(1, " + bad + ")", y.capacity(1, bad), CutTree.BAD);
                due("capacity(" + bad + ", " + bad + ")", y.capacity(bad, bad), CutTree.BAD);
            }
        }
    }

    private static void link() {
        CutTree x = triangles();
        due("link(0, 1)", x.link(0, 1), 20);
        due("link(1, 0)", x.link(1, 0), 20);
        due("link(0, 2)", x.link(0, 2), 20);
        due("link(3, 5)", x.link(3, 5), 40);
        due("link(0, 5)", x.link(0, 5), 4);
        due("link(5, 0)", x.link(5, 0), 4);
        x.connect(2, 3, 0);
        due("link(0, 5) unjoined", x.link(0, 5), 0);
        due("link(0, 1) unjoined", x.link(0, 1), 20);
        due("link(0, 7) of the greatest network", full(8, 50).link(0, 7), 350);
        CutTree two = new CutTree(2);
        two.connect(0, 1, 50);
        due("link(0, 1) of two points", two.link(0, 1), 50);
        for (int bad : noPoints(6)) {
            due("link(" + bad + ", 0)", x.link(bad, 0), CutTree.BAD);
            due("link(0, " + bad + ")", x.link(0, bad), CutTree.BAD);
            due("link(" + bad + ", " + bad + ")", x.link(bad, bad), CutTree.BAD);
        }
        for (int u = 0; u < 6; u++) {
            due("link(" + u + ", " + u + ")", x.link(u, u), CutTree.BAD);
        }
    }

    private static void side() {
        CutTree x = triangles();
        due("side(0, 5)", x.side(0, 5), 0b000111);
        due("side(5, 0)", x.side(5, 0), 0b111000);
        due("side(2, 3)", x.side(2, 3), 0b000111);
        due("side(0, 1)", x.side(0, 1), 0b000001);
        due("side(1, 0)", x.side(1, 0), 0b000010);
        // {2} weighs 24, so the side of 2 takes the far triangle with it.
        due("side(2, 0)", x.side(2, 0), 0b111100);
        CutTree line = new CutTree(5);
        for (int u = 0; u < 4; u++) {
            line.connect(u, u + 1, 6);
        }
        due("side(0, 4) of a line", line.side(0, 4), 0b00001);
        due("side(4, 0) of a line", line.side(4, 0), 0b10000);
        due("side(1, 4) of a line", line.side(1, 4), 0b00011);
        due("side(3, 0) of a line", line.side(3, 0), 0b11000);
        due("side(2, 1) of a line", line.side(2, 1), 0b11100);
        CutTree tail = full(8, 50);
        for (int u = 0; u < 7; u++) {
            tail.connect(u, 7, u == 0 ? 1 : 0);
        }
        due("side(0, 7) with all points but one", tail.side(0, 7), 0b01111111);
        due("side(7, 0) with one point", tail.side(7, 0), 0b10000000);
        // A line whose points do not stand in the order of their numbers: 3, 0, 1, 2.
        CutTree mixed = new CutTree(4);
        mixed.connect(3, 0, 5);
        mixed.connect(0, 1, 5);
        mixed.connect(1, 2, 5);
        due("side(3, 2) of a mixed line", mixed.side(3, 2), 0b1000);
        due("side(0, 2) of a mixed line", mixed.side(0, 2), 0b1001);
        due("side(0, 3) of a mixed line", mixed.side(0, 3), 0b0111);
        due("side(6, 7) with no capacities", new CutTree(8).side(6, 7), 64);
        due("side(0, 1) of two points", new CutTree(2).side(0, 1), 1);
        due("side(1, 0) of two points", new CutTree(2).side(1, 0), 2);
        for (int bad : noPoints(6)) {
            due("side(" + bad + ", 0)", x.side(bad, 0), CutTree.BAD);
            due("side(0, " + bad + ")", x.side(0, bad), CutTree.BAD);
            due("side(" + bad + ", " + bad + ")", x.side(bad, bad), CutTree.BAD);
        }
        for (int u = 0; u < 6; u++) {
            due("side(" + u + ", " + u + ")", x.side(u, u), CutTree.BAD);
        }
    }

    private static void smallest() {
        due("smallest() of a new object", new CutTree(8).smallest(), 0);
        due("smallest() of two triangles", triangles().smallest(), 4);
        due("smallest() of the greatest network", full(8, 50).smallest(), 350);
        due("smallest() of two points", full(2, 50).smallest(), 50);
        for (int n = 2; n <= 8; n++) {
            for (int weak = 0; weak < n; weak++) {
                CutTree x = full(n, 10);
                for (int v = 0; v < n; v++) {
                    x.connect(weak, v, 3);
                }
                due("smallest() with " + weak + " of " + n + " weak", x.smallest(), 3 * (n - 1));
            }
        }
    }

    private static void couples() {
        CutTree x = triangles();
        int[] ks = {LEAST, -1, 0, 4, 5, 20, 21, 40, 41, MOST};
        int[] wants = {15, 15, 15, 15, 6, 6, 3, 3, 0, 0};
        for (int i = 0; i < ks.length; i++) {
            due("couples(" + ks[i] + ")", x.couples(ks[i]), wants[i]);
        }
        due("couples(350) of the greatest network", full(8, 50).couples(350), 28);
        due("couples(351) of the greatest network", full(8, 50).couples(351), 0);
        due("couples(0) of a new object", new CutTree(2).couples(0), 1);
        due("couples(1) of a new object", new CutTree(2).couples(1), 0);
    }

    private static void groups() {
        CutTree x = triangles();
        int[] ks = {LEAST, -1, 0, 4, 5, 20, 21, 40, 41, MOST};
        int[] wants = {1, 1, 1, 1, 2, 2, 4, 4, 6, 6};
        for (int i = 0; i < ks.length; i++) {
            due("groups(" + ks[i] + ")", x.groups(ks[i]), wants[i]);
        }
        due("groups(350) of the greatest network", full(8, 50).groups(350), 1);
        due("groups(351) of the greatest network", full(8, 50).groups(351), 8);
        // The groups {0, 3} and {1, 2} lie inside one another.
        CutTree nested = new CutTree(4);
        nested.connect(0, 3, 8);
        nested.connect(1, 2, 8);
        due("groups(8) of nested groups", nested.groups(8), 2);
        due("groups(9) of nested groups", nested.groups(9), 4);
    }

    private static void group() {
        CutTree x = triangles();
        for (int u = 0; u < 6; u++) {
            int triangle = u < 3 ? 0b000111 : 0b111000;
            int alone = 1 << u;
            due("group(" + u + ", LEAST)", x.group(u, LEAST), 63);
            due("group(" + u + ", 0)", x.group(u, 0), 63);
            due("group(" + u + ", 4)", x.group(u, 4), 63);
            due("group(" + u + ", 5)", x.group(u, 5), triangle);
            due("group(" + u + ", 20)", x.group(u, 20), triangle);
            due("group(" + u + ", 21)", x.group(u, 21), u < 3 ? alone : triangle);
            due("group(" + u + ", 41)", x.group(u, 41), alone);
            due("group(" + u + ", MOST)", x.group(u, MOST), alone);
        }
        due("group(7, 350) of the greatest network", full(8, 50).group(7, 350), 255);
        for (int bad : noPoints(6)) {
            due("group(" + bad + ", 4)", x.group(bad, 4), CutTree.BAD);
            due("group(" + bad + ", LEAST)", x.group(bad, LEAST), CutTree.BAD);
            due("group(" + bad + ", MOST)", x.group(bad, MOST), CutTree.BAD);
        }
    }

    private static void weight() {
        CutTree x = triangles();
        due("weight({0})", x.weight(0b000001), 20);
        due("weight({2})", x.weight(0b000100), 24);
        due("weight({0, 1, 2})", x.weight(0b000111), 4);
        due("weight({3, 4, 5})", x.weight(0b111000), 4);
        due("weight({2, 3})", x.weight(0b001100), 60);
        due("weight({1, ..., 5})", x.weight(0b111110), 20);
        due("weight({0, ..., 4})", x.weight(0b011111), 40);
        due("weight of half the greatest network", full(8, 50).weight(0b01010101), 800);
        for (int n = 2; n <= 8; n++) {
            CutTree y = full(n, 1);
            int all = (1 << n) - 1;
            for (int cut = 1; cut < all; cut++) {
                int size = Integer.bitCount(cut);
                due("weight(" + cut + ") of " + n + " points", y.weight(cut), size * (n - size));
            }
            int[] noCuts = {0, all, all + 1, all + 2, 255, 256, 257, -1, -2, LEAST, LEAST + 1, MOST};
            for (int bad : noCuts) {
                due("weight(" + bad + ") of " + n + " points", y.weight(bad), CutTree.BAD);
            }
        }
    }

    private static void total() {
        due("total() of a new object", new CutTree(8).total(), 0);
        due("total() of two triangles", triangles().total(), 3 * 20 + 3 * 40 + 9 * 4);
        due("total() of the greatest network", full(8, 50).total(), 28 * 350);
        due("total() of two points", full(2, 50).total(), 50);
    }

    private static void cap() {
        CutTree x = triangles();
        int[] bad = {-1, -2, -50, LEAST};
        for (int top : bad) {
            due("cap(" + top + ")", x.cap(top), CutTree.BAD);
            due("total() after cap(" + top + ")", x.total(), 216);
        }
        due("cap(MOST)", x.cap(MOST), 0);
        due("cap(51)", x.cap(51), 0);
        due("cap(20)", x.cap(20), 0);
        due("total() after cap(20)", x.total(), 216);
        due("cap(19)", x.cap(19), 3);
        due("capacity(3, 4) after cap(19)", x.capacity(3, 4), 19);
        due("capacity(4, 3) after cap(19)", x.capacity(4, 3), 19);
        due("capacity(0, 1) after cap(19)", x.capacity(0, 1), 10);
        due("cap(19) again", x.cap(19), 0);
        due("cap(5)", x.cap(5), 6);
        due("capacity(2, 3) after cap(5)", x.capacity(2, 3), 4);
        due("link(0, 1) after cap(5)", x.link(0, 1), 10);
        due("cap(0)", x.cap(0), 7);
        due("total() after cap(0)", x.total(), 0);
        due("cap(0) again", x.cap(0), 0);
        due("connect(0, 1, 50) after cap(0)", x.connect(0, 1, 50), true);
        due("capacity(0, 1) after cap(0)", x.capacity(0, 1), 50);
        due("cap(49)", x.cap(49), 1);
        due("cap(0) of the greatest network", full(8, 50).cap(0), 28);
    }

    public static void main(String[] args) {
        due("BAD", CutTree.BAD, -1);
        newObject();
        connect();
        capacity();
        link();
        side();
        smallest();
        couples();
        groups();
        group();
        weight();
        total();
        cap();
        System.out.println(wrong == 0 ? "all answers are as due" : wrong + " answers are not as due");
        if (wrong != 0) {
            System.exit(1);
        }
    }
}
