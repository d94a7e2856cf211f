import java.util.Arrays;

/** Lines of nets that the tests use, told by their ends, two by two. */
final class Ends {
    private Ends() {
    }

    /** 0-1-2-.. up to n posts. */
    static int[] way(int n) {
        int[] ends = new int[2 * (n - 1)];
        for (int p = 0; p + 1 < n; p++) {
            ends[2 * p] = p;
            ends[2 * p + 1] = p + 1;
        }
        return ends;
    }

    /** A way whose last post is joined with its first one. */
    static int[] ring(int n) {
        int[] ends = Arrays.copyOf(way(n), 2 * n);
        ends[2 * n - 2] = n - 1;
        ends[2 * n - 1] = 0;
        return ends;
    }

    /** A middle that is joined with all other posts. */
    static int[] star(int n, int middle) {
        int[] ends = new int[2 * (n - 1)];
        int filled = 0;
        for (int p = 0; p < n; p++) {
            if (p != middle) {
                ends[filled] = middle;
                ends[filled + 1] = p;
                filled += 2;
            }
        }
        return ends;
    }

    /** The pairs of n posts, by the first, then the second one, up to so many. */
    static int[] pairs(int n, int most) {
        int[] ends = new int[2 * Math.min(most, n * (n - 1) / 2)];
        int filled = 0;
        for (int a = 0; a < n; a++) {
            for (int b = a + 1; b < n && filled < ends.length; b++) {
                ends[filled] = a;
                ends[filled + 1] = b;
                filled += 2;
            }
        }
        return ends;
    }

    /** Twelve posts and thirty lines: 0 is joined with all, 1 with all, then nine of 2. */
    static int[] full() {
        return pairs(12, 30);
    }
}
