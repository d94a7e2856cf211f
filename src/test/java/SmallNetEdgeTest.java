/** The bounds of SMALL NETS, sentence by sentence: promises 24 to 26 and what 'Terms' say of them. */
public final class SmallNetEdgeTest {
    private static final int NONE = -1, OUTSIDE = -1002, NOT = -1003;

    private SmallNetEdgeTest() {
    }

    public static void main(String[] args) {
        holdsOneToFive();
        holdsNumbers();
        holdsFewerPosts();
        holdsJustAs();
        holdsInSomeOrder();
        universalOneToThree();
        universalOneToFive();
        universalWhat();
        universalLeast();
        smallPairs();
        smallLeastAndMost();
        smallNot();
        Check.finish();
    }

    private static int most(int m) {
        return (1 << m * (m - 1) / 2) - 1;
    }

    private static void holdsOneToFive() {
        Check.sentence("OUTSIDE (m, k 1 .. 5, the numbers).");
        NameNets x = new NameNets();
        for (int m : Check.beyond(1, 5)) {
            for (int k = 1; k <= 5; k++) {
                Check.due("holds(" + m + ", 0, " + k + ", 0)", x.holds(m, 0, k, 0), OUTSIDE);
                Check.due("holds(" + k + ", 0, " + m + ", 0)", x.holds(k, 0, m, 0), OUTSIDE);
            }
            Check.due("both", x.holds(m, 0, m, 0), OUTSIDE);
        }
        for (int m = 1; m <= 5; m++) {
            for (int k = 1; k <= 5; k++) {
                Check.due("no LINES, " + k + " of " + m, x.holds(m, 0, k, 0), k <= m ? 1 : 0);
                Check.due("all LINES, " + k + " of " + m, x.holds(m, most(m), k, most(k)), k <= m ? 1 : 0);
            }
        }
    }

    private static void holdsNumbers() {
        Check.sentence("OUTSIDE (m, k 1 .. 5, the numbers).");
        NameNets x = new NameNets();
        for (int m = 1; m <= 5; m++) {
            for (int number : Check.beyond(0, most(m))) {
                Check.due("holds(" + m + ", " + number + ", 1, 0)", x.holds(m, number, 1, 0), OUTSIDE);
                Check.due("holds(" + m + ", " + number + ", 5, 0)", x.holds(m, number, 5, 0), OUTSIDE);
                Check.due("holds(5, 0, " + m + ", " + number + ")", x.holds(5, 0, m, number), OUTSIDE);
                Check.due("holds(1, 0, " + m + ", " + number + ")", x.holds(1, 0, m, number), OUTSIDE);
            }
            Check.due("the least number holds one POST", x.holds(m, 0, 1, 0), 1);
            Check.due("the greatest number holds one POST", x.holds(m, most(m), 1, 0), 1);
        }
    }

    private static void holdsFewerPosts() {
        Check.sentence("A SMALL NET H HOLDS G, if some of its POSTS, as many as G has, in some order, are joined just as those of G.");
        NameNets x = new NameNets();
        for (int m = 1; m < 5; m++) {
            Check.due("one POST more than it has", x.holds(m, 0, m + 1, 0), 0);
            Check.due("one POST more than it has", x.holds(m, most(m), m + 1, most(m)), 0);
            Check.due("as many as it has", x.holds(m, most(m), m, most(m)), 1);
        }
    }

    private static void holdsJustAs() {
        Check.sentence("are joined just as those of G.");
        NameNets x = new NameNets();
        for (int m = 2; m <= 5; m++) {
            Check.due("all joined, none asked for", x.holds(m, most(m), 2, 0), 0);
            Check.due("none joined, one asked for", x.holds(m, 0, 2, 1), 0);
            Check.due("all joined, all but one asked for", x.holds(m, most(m), m, most(m) - 1), 0);
            Check.due("all but one joined, all asked for", x.holds(m, most(m) - 1, m, most(m)), 0);
            Check.due("all but one joined, all of one POST less", x.holds(m, most(m) - 1, m - 1, most(m - 1)), 1);
        }
    }

    private static void holdsInSomeOrder() {
        Check.sentence("in some order");
        NameNets x = new NameNets();
        for (int m = 2; m <= 5; m++) {
            for (int pair = 0; pair < m * (m - 1) / 2; pair++) {
                for (int other = 0; other < m * (m - 1) / 2; other++) {
                    Check.due("one LINE for another", x.holds(m, 1 << pair, m, 1 << other), 1);
                }
                Check.due("all but one for another", x.holds(m, most(m) - (1 << pair), m, most(m) - 1), 1);
            }
        }
    }

    private static void universalOneToThree() {
        Check.sentence("It is UNIVERSAL for k (1 .. 3), if it HOLDS all of k POSTS.");
        NameNets x = new NameNets();
        int[][] many = {{1, 2, 8, 64, 1024}, {0, 0, 6, 62, 1022}, {0, 0, 0, 0, 240}};
        for (int k = 0; k <= 4; k++) {
            for (int m = 1; m <= 5; m++) {
                int due = k < 1 || k > 3 ? OUTSIDE : many[k - 1][m - 1];
                Check.due("universal(" + k + ", " + m + ", 0)", x.universal(k, m, 0), due);
            }
        }
        for (int k : Check.beyond(1, 3)) {
            Check.due("universal(" + k + ", 1, 0)", x.universal(k, 1, 0), OUTSIDE);
            Check.due("universal(" + k + ", 5, 1)", x.universal(k, 5, 1), OUTSIDE);
        }
    }

    private static void universalOneToFive() {
        Check.sentence("How many SMALL NETS of m POSTS (1 .. 5) are UNIVERSAL for k");
        NameNets x = new NameNets();
        for (int m : Check.beyond(1, 5)) {
            for (int k = 1; k <= 3; k++) {
                Check.due("universal(" + k + ", " + m + ", 0)", x.universal(k, m, 0), OUTSIDE);
                Check.due("universal(" + k + ", " + m + ", 1)", x.universal(k, m, 1), OUTSIDE);
            }
        }
    }

    private static void universalWhat() {
        Check.sentence("(what = 0), the least of these as a number (1; NONE). OUTSIDE.");
        NameNets x = new NameNets();
        for (int what : Check.beyond(0, 1)) {
            for (int k = 1; k <= 3; k++) {
                Check.due("universal(" + k + ", 5, " + what + ")", x.universal(k, 5, what), OUTSIDE);
            }
        }
        Check.due("k, m and what", x.universal(0, 0, 2), OUTSIDE);
    }

    private static void universalLeast() {
        Check.sentence("the least of these as a number (1; NONE)");
        NameNets x = new NameNets();
        int[][] least = {{0, 0, 0, 0, 0}, {NONE, NONE, 1, 1, 1}, {NONE, NONE, NONE, NONE, 15}};
        for (int k = 1; k <= 3; k++) {
            for (int m = 1; m <= 5; m++) {
                int number = least[k - 1][m - 1];
                Check.due("universal(" + k + ", " + m + ", 1)", x.universal(k, m, 1), number);
                for (int g = 0; g <= most(k) && number != NONE; g++) {
                    Check.due("it HOLDS " + g, x.holds(m, number, k, g), 1);
                }
            }
        }
    }

    private static void smallPairs() {
        Check.sentence("bit by bit the pairs (0, 1), (0, 2), (1, 2), (0, 3), (1, 3), (2, 3), (0, 4), ...");
        for (int m = 2; m <= 5; m++) {
            int bit = 0;
            for (int b = 1; b < m; b++) {
                for (int a = 0; a < b; a++) {
                    Check.due("(" + a + ", " + b + ")", Check.net(m, a, b).small(), 1 << bit);
                    Check.due("(" + b + ", " + a + ")", Check.net(m, b, a).small(), 1 << bit);
                    bit++;
                }
            }
        }
    }

    private static void smallLeastAndMost() {
        Check.sentence("SMALL NETS of m POSTS (1 .. 5) are numbers");
        for (int m = 1; m <= 5; m++) {
            Check.due("no LINES of " + m, Check.net(m).small(), 0);
            NameNets x = Check.net(m, Ends.pairs(m, 10));
            Check.due("all LINES of " + m, x.small(), most(m));
            Check.due("as holds takes it", x.holds(m, x.small(), m, x.small()), 1);
        }
    }

    private static void smallNot() {
        Check.sentence("THE NET as a SMALL NET. NOT: it has more than 5 POSTS.");
        NameNets x = new NameNets();
        for (int n = 1; n <= 12; n++) {
            x.net(n);
            Check.due("small() of " + n, x.small(), n <= 5 ? 0 : NOT);
        }
        x.net(5);
        Check.addLines(x, 3, 4);
        Check.due("small() of five", x.small(), 512);
        Check.due("post()", x.post(), 5);
        Check.due("small() of six", x.small(), NOT);
        Check.due("net(5)", x.net(5), 1);
        Check.due("small() of five again", x.small(), 0);
    }
}
