/** Promises 24 to 26: holds, universal, small. */
public final class SmallNetTest {
    private static final int NONE = -1, OUTSIDE = -1002, NOT = -1003;

    private SmallNetTest() {
    }

    public static void main(String[] args) {
        holds();
        holdsOfFive();
        holdsRefused();
        universal();
        small();
        Check.finish();
    }

    private static void holds() {
        NameNets x = new NameNets();
        // 4 posts, a way 0-1-2-3: bits of (0, 1), (1, 2), (2, 3)
        int way = 1 | 4 | 32;
        Check.due("a way holds one of three, in the order 0-1-2", x.holds(4, way, 3, 1 | 4), 1);
        Check.due("in another order", x.holds(4, way, 3, 1 | 2), 1);
        Check.due("a way holds no ring of three", x.holds(4, way, 3, 7), 0);
        Check.due("a way holds a line and a post apart", x.holds(4, way, 3, 4), 1);
        Check.due("but not three posts apart", x.holds(4, way, 3, 0), 0);
        Check.due("two apart", x.holds(4, way, 2, 0), 1);
        Check.due("itself", x.holds(4, way, 4, way), 1);
        Check.due("itself turned: 1-3-0-2", x.holds(4, way, 4, 2 | 8 | 16), 1);
        Check.due("not a star", x.holds(4, way, 4, 1 | 2 | 8), 0);
        Check.due("one of all of four, but joined just as", x.holds(4, 63, 3, 3), 0);
        Check.due("more posts than it has", x.holds(3, 7, 4, 7), 0);
        Check.due("one post", x.holds(1, 0, 1, 0), 1);
        Check.due("two of one", x.holds(1, 0, 2, 0), 0);
    }

    private static void holdsOfFive() {
        NameNets x = new NameNets();
        // a ring 0-1-2-3-4: (0, 1), (1, 2), (2, 3), (0, 4), (3, 4)
        int ring = 1 | 4 | 32 | 64 | 512;
        Check.due("a ring is its own opposite", x.holds(5, ring, 5, 1023 - ring), 1);
        Check.due("a ring holds a way of four", x.holds(5, ring, 4, 1 | 4 | 32), 1);
        Check.due("a ring holds no ring of four", x.holds(5, ring, 4, 1 | 4 | 32 | 8), 0);
        Check.due("not another with five lines", x.holds(5, ring, 5, 31), 0);
        Check.due("no lines", x.holds(5, 0, 5, 0), 1);
        Check.due("no lines, one asked for", x.holds(5, 0, 2, 1), 0);
        Check.due("the last pair alone", x.holds(5, 512, 2, 1), 1);
        Check.due("only the last post does not fit", x.holds(5, 0, 5, 512), 0);
        Check.due("no two posts in one seat", x.holds(5, 0, 5, 0), 1);
    }

    private static void holdsRefused() {
        NameNets x = new NameNets();
        for (int m : new int[] {0, 6, -1, Integer.MIN_VALUE, Integer.MAX_VALUE}) {
            Check.due("holds(" + m + ", 0, 1, 0)", x.holds(m, 0, 1, 0), OUTSIDE);
            Check.due("holds(1, 0, " + m + ", 0)", x.holds(1, 0, m, 0), OUTSIDE);
        }
        for (int m = 1; m <= 5; m++) {
            int many = 1 << m * (m - 1) / 2;
            Check.due("the greatest number of " + m, x.holds(m, many - 1, m, many - 1), 1);
            Check.due("beyond it", x.holds(m, many, 1, 0), OUTSIDE);
            Check.due("beyond it", x.holds(5, 0, m, many), OUTSIDE);
            Check.due("below 0", x.holds(m, -1, 1, 0), OUTSIDE);
            Check.due("below 0", x.holds(5, 0, m, -1), OUTSIDE);
        }
    }

    private static void universal() {
        NameNets x = new NameNets();
        int[][] many = {{1, 2, 8, 64, 1024}, {0, 0, 6, 62, 1022}, {0, 0, 0, 0, 240}};
        int[][] least = {{0, 0, 0, 0, 0}, {NONE, NONE, 1, 1, 1}, {NONE, NONE, NONE, NONE, 15}};
        for (int k = 1; k <= 3; k++) {
            for (int m = 1; m <= 5; m++) {
                Check.due("universal(" + k + ", " + m + ", 0)", x.universal(k, m, 0), many[k - 1][m - 1]);
                Check.due("universal(" + k + ", " + m + ", 1)", x.universal(k, m, 1), least[k - 1][m - 1]);
            }
        }
        Check.due("universal(0, 1, 0)", x.universal(0, 1, 0), OUTSIDE);
        Check.due("universal(4, 5, 0)", x.universal(4, 5, 0), OUTSIDE);
        Check.due("universal(1, 0, 0)", x.universal(1, 0, 0), OUTSIDE);
        Check.due("universal(1, 6, 0)", x.universal(1, 6, 0), OUTSIDE);
        Check.due("universal(1, 1, -1)", x.universal(1, 1, -1), OUTSIDE);
        Check.due("universal(1, 1, 2)", x.universal(1, 1, 2), OUTSIDE);
    }

    private static void small() {
        int[][] pairs = {{0, 1}, {0, 2}, {1, 2}, {0, 3}, {1, 3}, {2, 3}, {0, 4}, {1, 4}, {2, 4}, {3, 4}};
        for (int bit = 0; bit < 10; bit++) {
            NameNets x = Check.net(5, pairs[bit][bit % 2], pairs[bit][1 - bit % 2]);
            Check.due("small() of pair " + bit, x.small(), 1 << bit);
            x.post();
            Check.due("small() of six", x.small(), NOT);
        }
        NameNets y = new NameNets();
        Check.due("small() of one", y.small(), 0);
        y.net(4);
        Check.addLines(y, 3, 2, 1, 2, 1, 0);
        Check.due("small() of a way", y.small(), 1 | 4 | 32);
        y.strike(1);
        Check.due("small() once a line is taken away", y.small(), 1 | 32);
        y.net(12);
        Check.due("small() of twelve", y.small(), NOT);
    }
}
