/** The bounds of parcels and cuts, sentence by sentence: promises 19 to 23 and what 'Terms' say of them. */
public final class ParcelEdgeTest {
    private static final int NONE = -1, UNKNOWN = -1001, OUTSIDE = -1002, NOT = -1003;

    private ParcelEdgeTest() {
    }

    public static void main(String[] args) {
        nextThere();
        nextDownOrUp();
        nextNone();
        goesLeastAndMost();
        parcelsUnknown();
        stretchWithoutAny();
        stretchGreatest();
        stretchFirstPair();
        stretchInLeastTerms();
        stretchOutside();
        cutPartedAlready();
        cutOfOne();
        cutOfTwo();
        cutOfThree();
        cutNone();
        cutLeastLineFirst();
        cutOfLastLines();
        waysLeastAndMost();
        waysGivenUpAgain();
        cutAndWaysAgree();
        cutAndWaysRefused();
        Check.finish();
    }

    private static void nextThere() {
        Check.sentence("Where a PARCEL for b goes on from a: the POST (b, if a is b); NONE: no way leads there.");
        NameNets x = Check.net(12, Ends.full());
        NameNets y = Check.net(12);
        for (int p = 0; p < 12; p++) {
            Check.due("next(" + p + ", " + p + ")", x.next(p, p), p);
            Check.due("goes(" + p + ", " + p + ")", x.goes(p, p), 0);
            Check.due("apart: next(" + p + ", " + p + ")", y.next(p, p), p);
            Check.due("apart: goes(" + p + ", " + p + ")", y.goes(p, p), 0);
        }
    }

    private static void nextDownOrUp() {
        Check.sentence("at a POST it is there, if that is where it goes; else down to that one below it which is ABOVE where it goes, "
            + "if the POST is; else up.");
        NameNets way = Check.net(12, Ends.way(12));
        for (int p = 0; p < 12; p++) {
            Check.due("down from 0 to " + p, way.next(0, p), Math.min(p, 1));
            Check.due("up from 11 to " + p, way.next(11, p), p == 11 ? 11 : 10);
            Check.due("from 5 to " + p, way.next(5, p), p < 5 ? 4 : p == 5 ? 5 : 6);
        }
        // 0 has 11 below it, and 11 all others
        NameNets star = Check.net(12, Ends.star(12, 11));
        for (int p = 0; p < 11; p++) {
            Check.due("down to the first or last one below", star.next(11, p), p);
            Check.due("up, then down", star.next(p, (p + 1) % 11), 11);
        }
        // 1-2 is SPARE: a PARCEL goes by THE TREE though they are joined
        NameNets ring = Check.net(3, Ends.ring(3));
        Check.due("past a SPARE LINE", ring.next(1, 2), 0);
        Check.due("past a SPARE LINE", ring.goes(2, 1), 2);
    }

    private static void nextNone() {
        Check.sentence("NONE: no way leads there.");
        NameNets x = Check.net(12, 0, 1, 1, 2, 9, 10, 10, 11);
        int[] first = {0, 1, 2};
        int[] other = {9, 10, 11};
        for (int a : first) {
            for (int b : other) {
                Check.due("next(" + a + ", " + b + ")", x.next(a, b), NONE);
                Check.due("next(" + b + ", " + a + ")", x.next(b, a), NONE);
                Check.due("goes(" + a + ", " + b + ")", x.goes(a, b), NONE);
                Check.due("goes(" + b + ", " + a + ")", x.goes(b, a), NONE);
            }
            Check.due("one alone", x.next(a, 5), NONE);
            Check.due("from one alone", x.goes(5, a), NONE);
        }
        Check.due("line(2, 9)", x.line(2, 9), 4);
        Check.due("a way leads there", x.next(0, 11), 1);
        Check.due("a way leads there", x.goes(0, 11), 5);
    }

    private static void goesLeastAndMost() {
        Check.sentence("How many LINES a PARCEL goes from a to b; NONE. UNKNOWN.");
        NameNets way = Check.net(12, Ends.way(12));
        NameNets ring = Check.net(12, Ends.ring(12));
        for (int a = 0; a < 12; a++) {
            for (int b = 0; b < 12; b++) {
                Check.due("way: goes(" + a + ", " + b + ")", way.goes(a, b), Math.abs(a - b));
                // THE TREE is a way from 7 to 11, 0 and on to 6: so 7 .. 11 lie five to one places left of 0
                int left = a > 6 ? a - 12 : a;
                int right = b > 6 ? b - 12 : b;
                Check.due("ring: goes(" + a + ", " + b + ")", ring.goes(a, b), Math.abs(left - right));
            }
        }
    }

    private static void parcelsUnknown() {
        Check.sentence("How many LINES a PARCEL goes from a to b; NONE. UNKNOWN.");
        for (int n : new int[] {1, 5, 12}) {
            NameNets x = Check.net(n, Ends.way(n));
            for (int p : Check.beyond(0, n - 1)) {
                for (int q : new int[] {0, n - 1, p}) {
                    Check.due("next(" + p + ", " + q + ")", x.next(p, q), UNKNOWN);
                    Check.due("next(" + q + ", " + p + ")", x.next(q, p), UNKNOWN);
                    Check.due("goes(" + p + ", " + q + ")", x.goes(p, q), UNKNOWN);
                    Check.due("goes(" + q + ", " + p + ")", x.goes(q, p), UNKNOWN);
                }
            }
            Check.due("the last POST", x.goes(0, n - 1), n - 1);
        }
    }

    private static void isStretch(String words, NameNets x, int upper, int lower, int a, int b) {
        Check.due(words + ": stretch(0)", x.stretch(0), upper);
        Check.due(words + ": stretch(1)", x.stretch(1), lower);
        Check.due(words + ": stretch(2)", x.stretch(2), a);
        Check.due(words + ": stretch(3)", x.stretch(3), b);
    }

    private static void stretchWithoutAny() {
        Check.sentence("0, 1, NONE, NONE without any.");
        NameNets x = new NameNets();
        isStretch("a new one", x, 0, 1, NONE, NONE);
        for (int n = 1; n <= 12; n++) {
            x.net(n);
            isStretch(n + " POSTS without LINES", x, 0, 1, NONE, NONE);
        }
        Check.due("line(0, 11)", x.line(0, 11), 0);
        isStretch("one LINE", x, 1, 1, 0, 11);
        Check.due("strike(0)", x.strike(0), 0);
        isStretch("it is taken away", x, 0, 1, NONE, NONE);
        Check.due("line(11, 10)", x.line(11, 10), 0);
        isStretch("the last pair", x, 1, 1, 10, 11);
    }

    private static void stretchGreatest() {
        Check.sentence("over all unlike a, b that are joined by some way: how many LINES it goes by how FAR they are; the greatest.");
        isStretch("a ring of twelve", Check.net(12, Ends.ring(12)), 11, 1, 6, 7);
        isStretch("a ring of three", Check.net(3, Ends.ring(3)), 2, 1, 1, 2);
        isStretch("a way of twelve", Check.net(12, Ends.way(12)), 1, 1, 0, 1);
        isStretch("a full net", Check.net(12, Ends.full()), 2, 1, 1, 2);
        // the greater one is that of the later tree
        NameNets x = Check.net(12, 0, 1, 1, 2, 2, 0, 3, 4, 4, 5, 5, 6, 6, 7, 7, 3);
        isStretch("a ring of five behind one of three", x, 4, 1, 5, 6);
    }

    private static void stretchFirstPair() {
        Check.sentence("2 a, 3 b of the first pair with it (by a, then b)");
        // two rings of four: of like ones the first, by a
        NameNets x = Check.net(8, 0, 1, 1, 2, 2, 3, 3, 0, 4, 5, 5, 6, 6, 7, 7, 4);
        isStretch("two rings of four", x, 3, 1, 2, 3);
        Check.due("strike(2)", x.strike(2), 7);
        isStretch("the second alone", x, 3, 1, 6, 7);
        // 0 has 1 .. 4 below it; SPARE are 3-4, 2-4 and 2-3: by a, then by b
        NameNets y = Check.net(5, 3, 4, 2, 4, 2, 3, 0, 4, 0, 3, 0, 2, 0, 1);
        isStretch("of one a the least b", y, 2, 1, 2, 3);
    }

    private static void stretchInLeastTerms() {
        Check.sentence("fractions are in least terms, the lower number above 0.");
        for (int far = 1; far <= 11; far++) {
            // a way on which 0 and 1 are the ends, so that the first pair is as FAR as can be
            int[] ends = new int[2 * far];
            for (int l = 0; l < far; l++) {
                ends[2 * l] = l == 0 ? 0 : l + 1;
                ends[2 * l + 1] = l == far - 1 ? 1 : l + 2;
            }
            NameNets x = Check.net(far + 1, ends);
            Check.due("how FAR 0 and 1 are", x.ask(2, 0, 1), far);
            Check.due("how many LINES", x.goes(0, 1), far);
            isStretch(far + " by " + far, x, 1, 1, 0, 1);
        }
    }

    private static void stretchOutside() {
        Check.sentence("0, 1, NONE, NONE without any. OUTSIDE.");
        NameNets x = new NameNets();
        for (int round = 0; round < 2; round++) {
            for (int what : Check.beyond(0, 3)) {
                Check.due("stretch(" + what + ")", x.stretch(what), OUTSIDE);
            }
            x.net(12);
            x.line(0, 1);
        }
    }

    private static void cutPartedAlready() {
        Check.sentence("0: they are parted already.");
        NameNets x = Check.net(12, 0, 1, 10, 11);
        Check.due("cut(0, 11)", x.cut(0, 11), 0);
        Check.due("cut(11, 0)", x.cut(11, 0), 0);
        Check.due("cut(5, 6)", x.cut(5, 6), 0);
        Check.due("ways(5, 6)", x.ways(5, 6), 0);
        NameNets bare = Check.net(12);
        Check.due("without LINES", bare.cut(0, 11), 0);
        Check.due("without LINES", bare.ways(11, 0), 0);
    }

    private static void cutOfOne() {
        Check.sentence("the SET with the fewest LINES that PARTS them if it FAILS (3 at most)");
        NameNets x = Check.net(12, Ends.way(12));
        for (int a = 0; a < 11; a++) {
            Check.due("the LINE between both", x.cut(a, a + 1), 1 << a);
            Check.due("of several the least", x.cut(a, 11), 1 << a);
            Check.due("of several the least", x.cut(11, a), 1 << a);
        }
    }

    private static void cutOfTwo() {
        Check.sentence("the SET with the fewest LINES that PARTS them if it FAILS (3 at most)");
        NameNets x = Check.net(12, Ends.ring(12));
        // LINE p goes from p to its next one: the least of those between, and the least of the others
        Check.due("cut(0, 1)", x.cut(0, 1), 1 | 2);
        Check.due("cut(0, 6)", x.cut(0, 6), 1 | 64);
        Check.due("cut(3, 4)", x.cut(3, 4), 1 | 8);
        Check.due("cut(11, 0)", x.cut(11, 0), 1 | 1 << 11);
        Check.due("cut(10, 11)", x.cut(10, 11), 1 | 1 << 10);
        Check.due("strike(0)", x.strike(0), 11);
        Check.due("one is enough now", x.cut(11, 0), 1 << 10);
    }

    private static void cutOfThree() {
        Check.sentence("the SET with the fewest LINES that PARTS them if it FAILS (3 at most)");
        // three ways of two LINES from 0 to 4 by way of 1, 2, 3
        NameNets x = Check.net(5, 0, 1, 1, 4, 0, 2, 2, 4, 0, 3, 3, 4);
        Check.due("three LINES", x.cut(0, 4), 1 | 4 | 16);
        Check.due("three LINES, back", x.cut(4, 0), 1 | 4 | 16);
        Check.due("one between has two", x.cut(0, 1), 3);
        Check.due("two between: the lesser one's", x.cut(2, 3), 4 | 8);
        Check.due("three ways", x.ways(0, 4), 3);
        Check.due("a fourth LINE", x.line(4, 0), 6);
        Check.due("four LINES would be needed", x.cut(0, 4), NONE);
        Check.due("four ways", x.ways(0, 4), 4);
    }

    private static void cutNone() {
        Check.sentence("NONE: no three LINES part them; 0: they are parted already.");
        for (int n = 2; n <= 8; n++) {
            NameNets x = Check.net(n, Ends.pairs(n, 28));
            // 0 has the first n less 1 LINES
            Check.due("all of " + n + " joined", x.cut(0, n - 1), n <= 4 ? (1 << n - 1) - 1 : NONE);
            Check.due("all of " + n + " joined", x.cut(n - 1, 0), n <= 4 ? (1 << n - 1) - 1 : NONE);
            Check.due("ways in all of " + n, x.ways(0, n - 1), n - 1);
        }
    }

    private static void cutLeastLineFirst() {
        Check.sentence("of like ones that which has the least LINE where they first differ.");
        // 0-1-2-3 with each LINE doubled by a way of two: the cut of 0 and 3 is one of three pairs of sides
        NameNets x = Check.net(7, 2, 3, 1, 2, 0, 1, 0, 4, 4, 1, 1, 5, 5, 2, 2, 6, 6, 3);
        // LINE 0 with 7 or 8; LINE 1 with 5 or 6; LINE 2 with 3 or 4: the first is less though its second is greater
        Check.due("the first LINE is looked at first", x.cut(0, 3), 1 | 1 << 7);
        Check.due("strike(0)", x.strike(0), 8);
        Check.due("2 and 3 by one LINE now", x.cut(0, 3), 1 << 6);
        Check.due("the others as before, moved up", x.cut(0, 2), 1 | 1 << 4);
        Check.due("and their like", x.cut(0, 1), 2 | 1 << 2);
    }

    private static void cutOfLastLines() {
        Check.sentence("THE CUT, as a SET");
        // eight POSTS, all joined, take 28 LINES; 11 hangs on the last two
        NameNets x = Check.net(12, Ends.pairs(8, 28));
        Check.due("line(7, 11)", x.line(7, 11), 28);
        Check.due("line(11, 6)", x.line(11, 6), 29);
        Check.due("the last two", x.cut(0, 11), 3 << 28);
        Check.due("the last two, back", x.cut(11, 7), 3 << 28);
        Check.due("strike(28)", x.strike(28), 29);
        Check.due("line(8, 11)", x.line(8, 11), 29);
        Check.due("LINE 29 alone", x.cut(8, 11), 1 << 29);
        Check.due("LINE 28 alone", x.cut(11, 0), 1 << 28);
        Check.due("of both the least", x.cut(8, 0), 1 << 28);
    }

    private static void waysLeastAndMost() {
        Check.sentence("how many ways there are, no LINE on two of them, from a to b.");
        NameNets bare = Check.net(12);
        Check.due("none", bare.ways(0, 11), 0);
        NameNets way = Check.net(12, Ends.way(12));
        Check.due("one", way.ways(11, 0), 1);
        NameNets ring = Check.net(12, Ends.ring(12));
        Check.due("two", ring.ways(11, 0), 2);
        NameNets full = Check.net(12, Ends.full());
        Check.due("eleven, the most", full.ways(0, 1), 11);
        Check.due("eleven, back", full.ways(1, 0), 11);
        Check.due("as many as 11 has", full.ways(0, 11), 3);
        Check.due("as many as 11 has, from there", full.ways(11, 0), 3);
        Check.due("a POST that several ways share", full.ways(10, 11), 3);
        // two rings that share POST 2: the ways may share it, too
        NameNets eight = Check.net(5, 0, 1, 1, 2, 2, 0, 2, 3, 3, 4, 4, 2);
        Check.due("two by way of one POST", eight.ways(0, 4), 2);
        // two nets of four POSTS, all joined, with one LINE between them, then with two
        NameNets bridge = Check.net(8, 0, 1, 0, 2, 0, 3, 1, 2, 1, 3, 2, 3, 4, 5, 4, 6, 4, 7, 5, 6, 5, 7, 6, 7, 3, 4);
        Check.due("no more than the middle lets by", bridge.ways(0, 7), 1);
        Check.due("no more than the middle lets by, back", bridge.ways(7, 0), 1);
        Check.due("line(2, 5)", bridge.line(2, 5), 13);
        Check.due("the middle lets two by", bridge.ways(0, 7), 2);
        Check.due("the middle lets two by, back", bridge.ways(7, 0), 2);
        Check.due("on one side", bridge.ways(0, 1), 3);
    }

    /** A LINE that one way left to another, and that this one left again, is free for a third in both directions. */
    private static void waysGivenUpAgain() {
        Check.sentence("how many ways there are, no LINE on two of them, from a to b.");
        NameNets x = Check.net(10, 3, 6, 2, 6, 9, 8, 7, 2, 4, 7, 6, 8, 1, 7, 4, 5, 1, 5, 0, 4, 5, 3, 2, 5, 0, 1, 9, 2, 9, 3);
        // 9-3-5-1, 9-2-7-1 and 9-8-6-2-5-4-0-1 share no LINE
        Check.due("as many LINES as 9 has", x.told(9, 2), 3);
        Check.due("as many LINES as 1 has", x.told(1, 2), 3);
        Check.due("ways(9, 1)", x.ways(9, 1), 3);
        Check.due("ways(1, 9)", x.ways(1, 9), 3);
        Check.due("no two LINES part them", Integer.bitCount(x.cut(9, 1)), 3);
        NameNets y = Check.net(11, 9, 6, 6, 8, 7, 10, 0, 9, 2, 7, 1, 9, 0, 7, 7, 3, 4, 9, 2, 3, 0, 5, 1, 4, 10, 4, 3, 4, 0, 8,
            1, 5, 5, 3);
        Check.due("ways(3, 9)", y.ways(3, 9), 4);
        Check.due("ways(9, 3)", y.ways(9, 3), 4);
        Check.due("no three LINES part them", y.cut(3, 9), NONE);
    }

    private static void cutAndWaysAgree() {
        Check.sentence("WAYS: how many ways there are, no LINE on two of them, from a to b.");
        for (int lines = 0; lines <= 30; lines++) {
            NameNets x = Check.net(9, Ends.pairs(9, lines));
            for (int a = 0; a < 9; a += 2) {
                for (int b = 8; b > a; b -= 3) {
                    int ways = x.ways(a, b);
                    int cut = x.cut(a, b);
                    Check.due("as many as THE CUT has", ways > 3 ? NONE : ways, cut == NONE ? NONE : Integer.bitCount(cut));
                    if (cut != NONE) {
                        Check.due("THE CUT parts them", x.parted(a, b, cut), 1);
                    }
                }
            }
        }
    }

    private static void cutAndWaysRefused() {
        Check.sentence("UNKNOWN; NOT: a is b.");
        for (int n : new int[] {1, 6, 12}) {
            NameNets x = Check.net(n, Ends.way(n));
            for (int p = 0; p < n; p++) {
                Check.due("cut(" + p + ", " + p + ")", x.cut(p, p), NOT);
                Check.due("ways(" + p + ", " + p + ")", x.ways(p, p), NOT);
            }
            for (int p : Check.beyond(0, n - 1)) {
                for (int q : new int[] {0, n - 1, p}) {
                    Check.due("cut(" + p + ", " + q + ")", x.cut(p, q), UNKNOWN);
                    Check.due("cut(" + q + ", " + p + ")", x.cut(q, p), UNKNOWN);
                    Check.due("ways(" + p + ", " + q + ")", x.ways(p, q), UNKNOWN);
                    Check.due("ways(" + q + ", " + p + ")", x.ways(q, p), UNKNOWN);
                }
            }
        }
    }
}
