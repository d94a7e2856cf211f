/** Promises 19 to 23: next, goes, stretch, cut, ways. */
public final class ParcelTest {
    private static final int NONE = -1, UNKNOWN = -1001, OUTSIDE = -1002, NOT = -1003;

    private ParcelTest() {
    }

    public static void main(String[] args) {
        nextAndGoes();
        stretch();
        stretchInLeastTerms();
        stretchAtEdges();
        cut();
        cutOfThree();
        cutOfFour();
        ways();
        waysThatGiveWay();
        waysThatGiveWayTwice();
        Check.finish();
    }

    private static void nextAndGoes() {
        // below 0: 1, 2, 4; below 1: 5; spare: 5-4; root 3 with 6 below it
        NameNets x = Check.net(7, 2, 0, 4, 0, 5, 4, 1, 0, 5, 1, 6, 3);
        Check.due("down", x.next(0, 5), 1);
        Check.due("down again", x.next(1, 5), 5);
        Check.due("up, past the spare line", x.next(5, 4), 1);
        Check.due("up", x.next(1, 2), 0);
        Check.due("down to a neighbour", x.next(0, 2), 2);
        Check.due("there", x.next(5, 5), 5);
        Check.due("no way, from a root", x.next(0, 6), NONE);
        Check.due("no way, from below", x.next(5, 6), NONE);
        Check.due("no way, from the other tree", x.next(6, 0), NONE);
        Check.due("the other tree", x.next(6, 3), 3);
        Check.due("goes(5, 4)", x.goes(5, 4), 3);
        Check.due("goes(4, 5)", x.goes(4, 5), 3);
        Check.due("goes(0, 5)", x.goes(0, 5), 2);
        Check.due("goes(5, 5)", x.goes(5, 5), 0);
        Check.due("goes(2, 3)", x.goes(2, 3), NONE);
        for (int p : new int[] {-1, 7, Integer.MIN_VALUE, Integer.MAX_VALUE}) {
            Check.due("next(0, " + p + ")", x.next(0, p), UNKNOWN);
            Check.due("next(" + p + ", 0)", x.next(p, 0), UNKNOWN);
            Check.due("next(" + p + ", " + p + ")", x.next(p, p), UNKNOWN);
            Check.due("goes(0, " + p + ")", x.goes(0, p), UNKNOWN);
            Check.due("goes(" + p + ", 0)", x.goes(p, 0), UNKNOWN);
        }
    }

    private static void isStretch(NameNets x, int upper, int lower, int a, int b) {
        Check.due("stretch(0)", x.stretch(0), upper);
        Check.due("stretch(1)", x.stretch(1), lower);
        Check.due("stretch(2)", x.stretch(2), a);
        Check.due("stretch(3)", x.stretch(3), b);
    }

    private static void stretch() {
        // rings of 3 to 12: the ends of the spare line are far apart in the tree
        for (int n = 3; n <= 12; n++) {
            NameNets x = new NameNets();
            x.net(n);
            for (int p = 0; p < n; p++) {
                x.line(p, (p + 1) % n);
            }
            // the tree goes both ways from 0; of an even ring 1 comes in first, so its side is the longer one
            int side = n / 2;
            isStretch(x, n - 1, 1, side, side + 1);
        }
    }

    private static void stretchInLeastTerms() {
        // the first pair is 0, 1: two lines by a distance of two
        NameNets x = Check.net(3, 0, 2, 2, 1);
        isStretch(x, 1, 1, 0, 1);
        // and here three by three
        x.net(4);
        Check.addLines(x, 0, 2, 2, 3, 3, 1);
        isStretch(x, 1, 1, 0, 1);
        x.net(4);
        Check.addLines(x, 0, 1, 1, 2);
        Check.due("line(2, 0)", x.line(2, 0), 2);
        // 1 and 2 are both below 0 and joined: 2 by 1
        isStretch(x, 2, 1, 1, 2);
        Check.due("line(2, 3)", x.line(2, 3), 3);
        isStretch(x, 2, 1, 1, 2);
        x.strike(1);
        isStretch(x, 1, 1, 0, 1);
    }

    private static void stretchAtEdges() {
        NameNets x = new NameNets();
        isStretch(x, 0, 1, NONE, NONE);
        x.net(12);
        isStretch(x, 0, 1, NONE, NONE);
        x.line(11, 10);
        isStretch(x, 1, 1, 10, 11);
        Check.due("stretch(-1)", x.stretch(-1), OUTSIDE);
        Check.due("stretch(4)", x.stretch(4), OUTSIDE);
        // two trees: 0-1-2 with its ring, 5-6-7-8 with a ring of four
        x.net(9);
        Check.addLines(x, 0, 1, 1, 2, 2, 0, 5, 6, 6, 7, 7, 8, 8, 5);
        isStretch(x, 3, 1, 7, 8);
    }

    private static void cut() {
        // 0-1 is a bridge; 1-2-3 a ring with 3-1; 4 apart
        NameNets x = Check.net(5, 3, 1, 1, 2, 0, 1, 2, 3);
        Check.due("the bridge", x.cut(0, 3), 4);
        Check.due("the bridge, back", x.cut(3, 0), 4);
        // 1 and 2: lines 1 and (0 or 3); {0, 1} has the least line first
        Check.due("the least line first", x.cut(1, 2), 3);
        // 3 and 2: line 3 and (0 or 1)
        Check.due("the least line first", x.cut(2, 3), 9);
        Check.due("1 and 3", x.cut(1, 3), 3);
        Check.due("parted already", x.cut(0, 4), 0);
        Check.due("cut(2, 2)", x.cut(2, 2), NOT);
        Check.due("cut(4, 4)", x.cut(4, 4), NOT);
        Check.due("cut(5, 5)", x.cut(5, 5), UNKNOWN);
        Check.due("cut(0, 5)", x.cut(0, 5), UNKNOWN);
        Check.due("cut(-1, 0)", x.cut(-1, 0), UNKNOWN);
    }

    private static void cutOfThree() {
        // all of four posts: lines 0-1, 0-2, 0-3, 1-2, 1-3, 2-3
        NameNets x = Check.net(4, 0, 1, 0, 2, 0, 3, 1, 2, 1, 3, 2, 3);
        Check.due("around 0", x.cut(0, 3), 7);
        Check.due("around 1", x.cut(1, 2), 25);
        Check.due("around 2, which has a lesser line than 3", x.cut(3, 2), 42);
        Check.due("one less: strike(5)", x.strike(5), 5);
        // 2 has 0-2 and 1-2 left, 3 has 0-3 and 1-3
        Check.due("around 2", x.cut(2, 3), 10);
        Check.due("around 3", x.cut(0, 3), 20);
    }

    private static void cutOfFour() {
        NameNets x = new NameNets();
        x.net(5);
        for (int a = 0; a < 5; a++) {
            for (int b = a + 1; b < 5; b++) {
                x.line(a, b);
            }
        }
        Check.due("no three lines part them", x.cut(0, 4), NONE);
        Check.due("ways(0, 4)", x.ways(0, 4), 4);
        // line 0 is 0-1: both have three lines left then
        Check.due("strike(0)", x.strike(0), 9);
        Check.due("around 0", x.cut(0, 1), 7);
        Check.due("around 1", x.cut(1, 4), 56);
        Check.due("2 and 4 still have four", x.cut(2, 4), NONE);
    }

    private static void ways() {
        NameNets x = Check.net(5, 3, 1, 1, 2, 0, 1, 2, 3);
        Check.due("ways(0, 3)", x.ways(0, 3), 1);
        Check.due("ways(3, 1)", x.ways(3, 1), 2);
        Check.due("ways(4, 1)", x.ways(4, 1), 0);
        Check.due("ways(1, 1)", x.ways(1, 1), NOT);
        Check.due("ways(5, 5)", x.ways(5, 5), UNKNOWN);
        Check.due("ways(0, -1)", x.ways(0, -1), UNKNOWN);
        Check.due("ways(9, 0)", x.ways(9, 0), UNKNOWN);
        // ten ways of two lines each from 0 to 11, and one straight
        x.net(12);
        x.line(0, 11);
        for (int p = 1; p < 11; p++) {
            x.line(0, p);
            x.line(11, p);
        }
        Check.due("the most ways", x.ways(0, 11), 11);
        Check.due("from one between", x.ways(5, 11), 2);
    }

    /** Here a post where a way was given up must still be open to the ways that it has left. */
    private static void waysThatGiveWayTwice() {
        NameNets x = Check.net(11, 8, 2, 10, 5, 4, 1, 10, 9, 2, 0, 5, 2, 8, 3, 4, 0, 5, 4, 7, 3, 7, 2, 9, 5, 8, 0, 9, 4,
            7, 0, 6, 4, 6, 5, 10, 3, 10, 6, 4, 3);
        Check.due("ways(0, 10)", x.ways(0, 10), 4);
        Check.due("ways(10, 0)", x.ways(10, 0), 4);
        Check.due("four ways: no three lines part them", x.cut(0, 10), NONE);
    }

    /** The first way found goes 0-1-4-7 and stands in the way of both others, until it gives up its middle. */
    private static void waysThatGiveWay() {
        NameNets x = Check.net(8, 0, 1, 1, 4, 4, 7, 0, 2, 2, 3, 3, 4, 1, 5, 5, 6, 6, 7);
        Check.due("ways(0, 7)", x.ways(0, 7), 2);
        Check.due("ways(7, 0)", x.ways(7, 0), 2);
        Check.due("asked again", x.ways(0, 7), 2);
        Check.due("the net is as it was", x.count(1), 9);
        Check.due("the net is as it was", x.ask(1, 1, 4), 1);
        x.strike(1);
        Check.due("the middle was not needed", x.ways(0, 7), 2);
    }
}
