/** Promises 1 to 8: a new object, net, post, line, strike, count, told, lines. */
public final class NetTest {
    private static final int NONE = -1, UNKNOWN = -1001, OUTSIDE = -1002, NOT = -1003, FULL = -1004;

    private NetTest() {
    }

    public static void main(String[] args) {
        newObject();
        net();
        post();
        line();
        lineFull();
        strike();
        count();
        told();
        toldOfTurnsAndRanks();
        lines();
        Check.finish();
    }

    private static void newObject() {
        NameNets x = new NameNets();
        int[] due = {1, 0, 0, 1, 0, 0, 0, 0};
        for (int what = 0; what < 8; what++) {
            Check.due("new: count(" + what + ")", x.count(what), due[what]);
        }
        Check.due("new: fault()", x.fault(), NONE);
        Check.due("new: said(0)", x.said(0), UNKNOWN);
        Check.due("new: book(0, 0, 0)", x.book(0, 0, 0), UNKNOWN);
        Check.due("new: told(0, 1)", x.told(0, 1), 0);
        Check.due("new: told(0, 4)", x.told(0, 4), 0);
        Check.due("new: told(0, 5)", x.told(0, 5), 0);
        Check.due("new: lines(0, 0)", x.lines(0, 0), UNKNOWN);
        NameNets y = new NameNets();
        y.net(3);
        Check.due("objects share nothing", x.count(0), 1);
    }

    private static void net() {
        NameNets x = Check.net(12, 0, 11, 3, 4);
        Check.feed(x, "far 0 11;");
        Check.due("read()", x.read(), 1);
        Check.feed(x, "far");
        Check.due("learn(1)", x.learn(1), 12);
        for (int n : new int[] {0, 13, -1, Integer.MIN_VALUE, Integer.MAX_VALUE}) {
            Check.due("net(" + n + ")", x.net(n), OUTSIDE);
        }
        Check.due("refused: posts stay", x.count(0), 12);
        Check.due("refused: lines stay", x.count(1), 2);
        Check.due("net(1)", x.net(1), 1);
        Check.due("posts", x.count(0), 1);
        Check.due("no lines", x.count(1), 0);
        Check.due("the book stays", x.book(1, 11, -1), 1);
        Check.due("the text stays", x.count(5), 3);
        Check.due("answers stay", x.said(0), 1);
        Check.due("net(12)", x.net(12), 1);
        Check.due("old lines are gone", x.line(11, 0), 0);
        Check.due("old neighbours are gone", x.told(4, 2), 0);
    }

    private static void post() {
        NameNets x = new NameNets();
        for (int p = 1; p < 12; p++) {
            Check.due("post()", x.post(), p);
        }
        Check.due("a thirteenth post", x.post(), FULL);
        Check.due("refused: posts stay", x.count(0), 12);
        Check.due("a new post has no lines", x.told(11, 2), 0);
        NameNets y = Check.net(2, 1, 0);
        Check.due("post()", y.post(), 2);
        Check.due("lines stay", y.count(1), 1);
        Check.due("the new one is a root", y.count(3), 2);
        Check.due("the new one's root", y.told(2, 1), 2);
    }

    private static void line() {
        NameNets x = Check.net(3, 2, 1);
        Check.due("line(0, 3)", x.line(0, 3), UNKNOWN);
        Check.due("line(-1, 0)", x.line(-1, 0), UNKNOWN);
        Check.due("line(3, 3)", x.line(3, 3), UNKNOWN);
        Check.due("line(1, 1)", x.line(1, 1), OUTSIDE);
        Check.due("line(1, 2)", x.line(1, 2), NOT);
        Check.due("line(2, 1)", x.line(2, 1), NOT);
        Check.due("refused: lines stay", x.count(1), 1);
        Check.due("line(0, 2)", x.line(0, 2), 1);
        Check.due("its ends as told", x.lines(0, 0), 2);
        Check.due("its ends as told", x.lines(0, 1), 1);
    }

    private static void lineFull() {
        NameNets x = new NameNets();
        x.net(12);
        int made = 0;
        for (int a = 0; a < 12; a++) {
            for (int b = a + 1; b < 12 && made < 30; b++) {
                Check.due("line(" + a + ", " + b + ")", x.line(a, b), made);
                made++;
            }
        }
        Check.due("a thirty-first", x.line(10, 11), FULL);
        Check.due("UNKNOWN ahead of FULL", x.line(10, 12), UNKNOWN);
        Check.due("OUTSIDE ahead of FULL", x.line(10, 10), OUTSIDE);
        Check.due("NOT ahead of FULL", x.line(1, 0), NOT);
        Check.due("lines", x.count(1), 30);
        Check.due("most lines of a post", x.count(7), 11);
        Check.due("the last of thirty is spare", x.lines(29, 3), 1 << 29);
        Check.due("strike(29)", x.strike(29), 29);
        Check.due("there is room again", x.line(10, 11), 29);
    }

    private static void strike() {
        NameNets x = Check.net(4, 0, 1, 1, 2, 2, 3, 3, 0);
        Check.due("strike(4)", x.strike(4), UNKNOWN);
        Check.due("strike(-1)", x.strike(-1), UNKNOWN);
        Check.due("refused: lines stay", x.count(1), 4);
        Check.due("strike(1)", x.strike(1), 3);
        Check.due("those behind move up", x.lines(1, 0), 2);
        Check.due("those behind move up", x.lines(2, 1), 0);
        Check.due("those ahead stay", x.lines(0, 1), 1);
        Check.due("the last number is free", x.lines(3, 0), UNKNOWN);
        Check.due("no more joined", x.ask(1, 1, 2), 0);
        Check.due("the others still joined", x.ask(1, 0, 3), 1);
        Check.due("line(2, 1)", x.line(2, 1), 3);
        Check.due("strike(3)", x.strike(3), 3);
        Check.due("strike(2)", x.strike(2), 2);
        Check.due("strike(1)", x.strike(1), 1);
        Check.due("strike(0)", x.strike(0), 0);
        Check.due("strike(0)", x.strike(0), UNKNOWN);
    }

    private static void count() {
        // a triangle with a tail, and two posts apart
        NameNets x = Check.net(6, 0, 1, 1, 2, 2, 0, 2, 3);
        int[] due = {6, 4, 3, 3, 0, 0, 0, 3};
        for (int what = 0; what < 8; what++) {
            Check.due("count(" + what + ")", x.count(what), due[what]);
        }
        Check.due("count(-1)", x.count(-1), OUTSIDE);
        Check.due("count(8)", x.count(8), OUTSIDE);
        NameNets star = Check.net(5, 0, 1, 2, 0, 0, 3);
        Check.due("the most LINES, of post 0 alone", star.count(7), 3);
        x.learn(2);
        x.learn(2);
        Check.due("KINDS LEARNED", x.count(4), 1);
        x.learn(0);
        Check.due("KINDS LEARNED", x.count(4), 2);
        Check.feed(x, "next 3 0;  far 0 5 ;");
        Check.due("bytes", x.count(5), 20);
        x.read();
        Check.due("bytes once read", x.count(5), 0);
        Check.due("ANSWERS", x.count(6), 2);
    }

    private static void told() {
        // 5 comes in below 1, as 1 came in before 4 and 2; 3 and 6 have a tree of their own
        NameNets x = Check.net(7, 2, 0, 4, 0, 5, 4, 1, 0, 5, 1, 6, 3);
        int[] above = {NONE, 0, 0, NONE, 0, 1, 3};
        int[] root = {0, 0, 0, 3, 0, 0, 3};
        int[] many = {3, 2, 1, 1, 2, 2, 1};
        int[] deep = {0, 1, 1, 0, 1, 2, 1};
        for (int p = 0; p < 7; p++) {
            Check.due("told(" + p + ", 0)", x.told(p, 0), above[p]);
            Check.due("told(" + p + ", 1)", x.told(p, 1), root[p]);
            Check.due("told(" + p + ", 2)", x.told(p, 2), many[p]);
            Check.due("told(" + p + ", 3)", x.told(p, 3), deep[p]);
        }
        Check.due("told(7, 0)", x.told(7, 0), UNKNOWN);
        Check.due("told(-1, 9)", x.told(-1, 9), UNKNOWN);
        Check.due("told(0, -1)", x.told(0, -1), OUTSIDE);
        Check.due("told(0, 6)", x.told(0, 6), OUTSIDE);
    }

    private static void toldOfTurnsAndRanks() {
        // taken away: 3 and 4 (one line each), then 0 of the triangle, then 1, then 2
        NameNets x = Check.net(5, 0, 1, 1, 2, 2, 0, 2, 3, 1, 4);
        int[] turn = {2, 3, 4, 0, 1};
        // three lines: 1, 2; two: 0; one: 3, 4
        int[] rank = {2, 0, 1, 3, 4};
        for (int p = 0; p < 5; p++) {
            Check.due("told(" + p + ", 4)", x.told(p, 4), turn[p]);
            Check.due("told(" + p + ", 5)", x.told(p, 5), rank[p]);
        }
        x.strike(4);
        Check.due("TURN once 4 stands alone", x.told(4, 4), 0);
        Check.due("RANK once 4 stands alone", x.told(2, 5), 0);
    }

    private static void lines() {
        // tree: 0-1, 0-2, 1-3; spare: 3-2 (line 1) closes 3-1-0-2, 2-1 (line 4) closes 2-0-1
        NameNets x = Check.net(4, 1, 0, 3, 2, 0, 2, 3, 1, 2, 1);
        int[] ofTree = {1, 0, 1, 1, 0};
        int[] name = {18, 2, 18, 2, 16};
        for (int l = 0; l < 5; l++) {
            Check.due("lines(" + l + ", 2)", x.lines(l, 2), ofTree[l]);
            Check.due("lines(" + l + ", 3)", x.lines(l, 3), name[l]);
        }
        Check.due("lines(1, 0)", x.lines(1, 0), 3);
        Check.due("lines(1, 1)", x.lines(1, 1), 2);
        Check.due("lines(5, 0)", x.lines(5, 0), UNKNOWN);
        Check.due("lines(-1, 7)", x.lines(-1, 7), UNKNOWN);
        Check.due("lines(0, 4)", x.lines(0, 4), OUTSIDE);
        Check.due("lines(0, -1)", x.lines(0, -1), OUTSIDE);
        x.strike(1);
        Check.due("a line that closes nothing", x.lines(2, 3), 0);
        Check.due("numbers in names move up", x.lines(3, 3), 8);
        NameNets y = Check.net(3, 1, 2, 0, 1, 2, 0);
        Check.due("line 0 is spare", y.lines(0, 2), 0);
        Check.due("line 0 is spare", y.lines(0, 3), 1);
        Check.due("a ring", y.lines(1, 3), 1);
        Check.due("a ring", y.lines(2, 3), 1);
    }
}
