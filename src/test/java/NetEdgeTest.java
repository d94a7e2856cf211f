/** The bounds of THE NET, sentence by sentence: promises 1 to 8 and what 'Terms' say of them. */
public final class NetEdgeTest {
    private static final int NONE = -1, UNKNOWN = -1001, OUTSIDE = -1002, NOT = -1003, FULL = -1004;

    private NetEdgeTest() {
    }

    public static void main(String[] args) {
        newObject();
        newNames();
        postsOneToTwelve();
        netHasNoLines();
        bookStays();
        postMore();
        postFull();
        lineUnknown();
        lineOnePostTwice();
        lineJoinedAlready();
        thirtyLines();
        lineOrderOfRefusals();
        strikeMovesUp();
        strikeUnknown();
        countLeastAndMost();
        countMostLines();
        countOutside();
        treeOfRoots();
        treeByNumbers();
        rootThatWasBelow();
        toldLeastAndMost();
        toldRefused();
        turnsAndRanksOfLikeOnes();
        linesAsTold();
        linesNames();
        firstLineIsSpare();
        linesRefused();
        Check.finish();
    }

    private static void newObject() {
        Check.sentence("`NameNets()`: One POST, no LINES; THE BOOK is empty.");
        NameNets x = new NameNets();
        int[] due = {1, 0, 0, 1, 0, 0, 0, 0};
        for (int what = 0; what < 8; what++) {
            Check.due("count(" + what + ")", x.count(what), due[what]);
        }
        for (int kind = 0; kind < 3; kind++) {
            Check.due("stale(" + kind + ")", x.stale(kind), NOT);
            Check.due("damaged(" + kind + ")", x.damaged(kind), NOT);
            for (int k = -3; k < 3; k++) {
                Check.due("book(" + kind + ", 0, " + k + ")", x.book(kind, 0, k), UNKNOWN);
            }
            Check.due("answer(" + kind + ", 0, 0)", x.answer(kind, 0, 0), UNKNOWN);
            Check.due("forge(" + kind + ", 0, 0, 0)", x.forge(kind, 0, 0, 0), UNKNOWN);
        }
        Check.due("strike(0)", x.strike(0), UNKNOWN);
        Check.due("told(1, 0)", x.told(1, 0), UNKNOWN);
        Check.due("small()", x.small(), 0);
        Check.due("fault()", x.fault(), NONE);
        Check.due("said(0)", x.said(0), UNKNOWN);
        Check.due("read()", x.read(), 0);
        Check.due("its next POST", x.post(), 1);
        Check.due("its first LINE", x.line(1, 0), 0);
    }

    private static void newNames() {
        Check.sentence("(1 .. 12; 1 at first)");
        NameNets x = new NameNets();
        int[] sizes = {2, 1, 2, 1};
        int[] bits = {2, 1, 2, 0};
        for (int kind = 0; kind < 4; kind++) {
            Check.due("numbers of KIND " + kind, x.name(kind, 0, NONE), sizes[kind]);
            for (int k = 0; k < sizes[kind]; k++) {
                Check.due("number " + k + " of KIND " + kind, x.name(kind, 0, k), 0);
            }
            Check.due("bits(" + kind + ", 0)", x.bits(kind, 0), bits[kind]);
            Check.due("bits(" + kind + ", 1)", x.bits(kind, 1), bits[kind]);
            Check.due("bits(" + kind + ", 2)", x.bits(kind, 2), 0);
        }
        int[] told = {NONE, 0, 0, 0, 0, 0};
        for (int what = 0; what < 6; what++) {
            Check.due("told(0, " + what + ")", x.told(0, what), told[what]);
        }
        Check.due("ABOVE itself", x.ask(0, 0, 0), 1);
        Check.due("not JOINED with itself", x.ask(1, 0, 0), 0);
        Check.due("FAR from itself", x.ask(2, 0, 0), 0);
        Check.due("not PARTED from itself", x.parted(0, 0, 0), 0);
        Check.due("next(0, 0)", x.next(0, 0), 0);
        Check.due("goes(0, 0)", x.goes(0, 0), 0);
    }

    private static void postsOneToTwelve() {
        Check.sentence("THE NET has n POSTS (1 .. 12");
        NameNets x = new NameNets();
        for (int n = -3; n <= 16; n++) {
            boolean within = n >= 1 && n <= 12;
            int was = x.count(0);
            Check.due("net(" + n + ")", x.net(n), within ? 1 : OUTSIDE);
            Check.due("POSTS behind net(" + n + ")", x.count(0), within ? n : was);
            int posts = x.count(0);
            Check.due("the last POST", x.told(posts - 1, 1), posts - 1);
            Check.due("the first that there is not", x.told(posts, 1), UNKNOWN);
        }
        for (int n : new int[] {Integer.MIN_VALUE, Integer.MAX_VALUE}) {
            Check.due("net(" + n + ")", x.net(n), OUTSIDE);
            Check.due("POSTS stay", x.count(0), 12);
        }
    }

    private static void netHasNoLines() {
        Check.sentence("THE NET has n POSTS and no LINES (THE BOOK stays): 1. OUTSIDE.");
        for (int n = 1; n <= 12; n++) {
            NameNets x = Check.net(12, Ends.full());
            Check.due("net(" + n + ")", x.net(n), 1);
            Check.due("LINES", x.count(1), 0);
            Check.due("LINE 0", x.lines(0, 0), UNKNOWN);
            Check.due("most LINES of a POST", x.count(7), 0);
            Check.due("ROOTS", x.count(3), n);
            for (int p = 0; p < n; p++) {
                Check.due("LINES of " + p, x.told(p, 2), 0);
            }
            if (n > 1) {
                Check.due("those that were joined may be again", x.line(0, n - 1), 0);
            }
        }
    }

    private static void bookStays() {
        Check.sentence("(THE BOOK stays)");
        NameNets x = Check.net(12, Ends.way(12));
        x.learn(0);
        x.learn(2);
        x.forge(0, 11, 1, 77);
        Check.due("net(1)", x.net(1), 1);
        Check.due("KINDS LEARNED", x.count(4), 2);
        for (int p = 0; p < 12; p++) {
            Check.due("book(0, " + p + ", 0)", x.book(0, p, 0), p);
            Check.due("book(2, " + p + ", -1) is there", x.book(2, p, NONE) > 0 ? 1 : 0, 1);
        }
        Check.due("what was FORGED", x.book(0, 11, 1), 77);
        Check.due("FAR by THE BOOK", x.answer(2, 0, 11), 11);
        Check.due("a KIND not LEARNED", x.stale(1), NOT);
    }

    private static void postMore() {
        Check.sentence("A POST more: its number. FULL.");
        for (int n = 1; n <= 12; n++) {
            NameNets x = new NameNets();
            x.net(n);
            for (int p = n; p < 12; p++) {
                Check.due("post() at " + p, x.post(), p);
                Check.due("POSTS", x.count(0), p + 1);
                Check.due("a ROOT of its own", x.told(p, 0), NONE);
                Check.due("without LINES", x.told(p, 2), 0);
            }
            Check.due("post() at 12", x.post(), FULL);
            Check.due("POSTS", x.count(0), 12);
            Check.due("POST 12", x.told(12, 0), UNKNOWN);
        }
    }

    private static void postFull() {
        Check.sentence("A POST more: its number. FULL.");
        NameNets x = Check.net(11, Ends.star(11, 10));
        Check.due("the twelfth", x.post(), 11);
        Check.due("LINES stay", x.count(1), 10);
        Check.due("FULL", x.post(), FULL);
        Check.due("FULL again", x.post(), FULL);
        Check.due("a LINE of the twelfth", x.line(11, 0), 10);
        Check.due("net(11)", x.net(11), 1);
        Check.due("there is room again", x.post(), 11);
        Check.due("the twelfth is new, without its LINE", x.told(11, 2), 0);
    }

    private static void lineUnknown() {
        Check.sentence("A LINE: its number. UNKNOWN; OUTSIDE: one POST twice; NOT: they are joined already; FULL.");
        for (int n = 1; n <= 12; n++) {
            NameNets x = new NameNets();
            x.net(n);
            for (int p : Check.beyond(0, n - 1)) {
                for (int q : new int[] {0, n - 1, p}) {
                    Check.due("line(" + p + ", " + q + ") of " + n, x.line(p, q), UNKNOWN);
                    Check.due("line(" + q + ", " + p + ") of " + n, x.line(q, p), UNKNOWN);
                }
            }
            Check.due("LINES", x.count(1), 0);
            Check.due("the first and the last POST", n > 1 ? x.line(n - 1, 0) : 0, 0);
        }
    }

    private static void lineOnePostTwice() {
        Check.sentence("OUTSIDE: one POST twice");
        NameNets x = new NameNets();
        x.net(12);
        for (int p = 0; p < 12; p++) {
            Check.due("line(" + p + ", " + p + ")", x.line(p, p), OUTSIDE);
        }
        Check.due("LINES", x.count(1), 0);
        Check.due("most LINES of a POST", x.count(7), 0);
    }

    private static void lineJoinedAlready() {
        Check.sentence("NOT: they are joined already");
        NameNets x = Check.net(12, Ends.full());
        int[] ends = Ends.full();
        for (int i = 0; i < ends.length; i += 2) {
            Check.due("as told", x.line(ends[i], ends[i + 1]), NOT);
            Check.due("turned", x.line(ends[i + 1], ends[i]), NOT);
        }
        Check.due("LINES", x.count(1), 30);
        Check.due("strike(0)", x.strike(0), 29);
        Check.due("0 and 1 are joined no more", x.line(1, 0), 29);
        Check.due("and are again", x.line(0, 1), NOT);
        NameNets y = Check.net(3, 0, 1, 1, 2);
        Check.due("joined by way of another POST is not joined", y.line(0, 2), 2);
    }

    private static void thirtyLines() {
        Check.sentence("(30 at most, numbered as they come; if one is taken away, those behind it move up)");
        NameNets x = new NameNets();
        x.net(12);
        int made = 0;
        for (int a = 11; a >= 0; a--) {
            for (int b = 0; b < a; b++) {
                Check.due("line(" + a + ", " + b + ")", x.line(a, b), made < 30 ? made : FULL);
                made++;
                Check.due("LINES", x.count(1), Math.min(made, 30));
            }
        }
        Check.due("the last one's ends", x.lines(29, 0), 9);
        Check.due("the last one's ends", x.lines(29, 1), 8);
        Check.due("LINE 30", x.lines(30, 0), UNKNOWN);
        Check.due("a POST whose LINES were FULL", x.ask(1, 1, 0), 0);
        Check.due("strike(12)", x.strike(12), 29);
        Check.due("there is room for one", x.line(1, 0), 29);
        Check.due("and for no other", x.line(2, 0), FULL);
    }

    private static void lineOrderOfRefusals() {
        Check.sentence("REFUSALS, of several the first in this order: UNKNOWN (a POST, LINE, NAME that there is not), "
            + "OUTSIDE (another number out of its bounds), NOT (not now, as told), FULL.");
        NameNets x = Check.net(12, Ends.full());
        Check.due("UNKNOWN, one POST twice, FULL", x.line(12, 12), UNKNOWN);
        Check.due("UNKNOWN, FULL", x.line(11, 12), UNKNOWN);
        Check.due("UNKNOWN, FULL", x.line(-1, 11), UNKNOWN);
        Check.due("one POST twice, FULL", x.line(11, 11), OUTSIDE);
        Check.due("joined already, FULL", x.line(0, 1), NOT);
        Check.due("FULL alone", x.line(10, 11), FULL);
        Check.due("told: POST and what", x.told(12, 6), UNKNOWN);
        Check.due("lines: LINE and what", x.lines(30, 4), UNKNOWN);
        Check.due("name: POST and KIND", x.name(4, 12, 0), UNKNOWN);
        Check.due("ask: POST and KIND", x.ask(3, 0, 12), UNKNOWN);
        Check.due("parted: POST and more than six", x.parted(0, 12, 127), UNKNOWN);
        Check.due("parted: a LINE and more than six", x.parted(0, 1, 127 << 24), UNKNOWN);
        Check.due("stale: KIND, not LEARNED", x.stale(3), OUTSIDE);
        Check.due("damaged: KIND, not LEARNED", x.damaged(3), OUTSIDE);
        Check.due("cut: POST, a is b", x.cut(12, 12), UNKNOWN);
        Check.due("ways: POST, a is b", x.ways(12, 12), UNKNOWN);
        Check.feed(x, " ".repeat(200));
        Check.due("feed: n, FULL", x.feed(9, 0), OUTSIDE);
        Check.due("feed: n, FULL", x.feed(0, 0), OUTSIDE);
        Check.due("feed: FULL alone", x.feed(1, 0), FULL);
    }

    private static void strikeMovesUp() {
        Check.sentence("if one is taken away, those behind it move up");
        int[] ends = Ends.full();
        for (int struck = 0; struck < 30; struck++) {
            NameNets x = Check.net(12, ends);
            Check.due("strike(" + struck + ")", x.strike(struck), 29);
            for (int l = 0; l < 29; l++) {
                int was = l < struck ? l : l + 1;
                Check.due("end 0 of " + l + " without " + struck, x.lines(l, 0), ends[2 * was]);
                Check.due("end 1 of " + l + " without " + struck, x.lines(l, 1), ends[2 * was + 1]);
            }
            Check.due("LINE 29 without " + struck, x.lines(29, 0), UNKNOWN);
            Check.due("no more JOINED", x.ask(1, ends[2 * struck], ends[2 * struck + 1]), 0);
        }
    }

    private static void strikeUnknown() {
        Check.sentence("A LINE is taken away: how many are left. UNKNOWN.");
        NameNets x = Check.net(12, Ends.full());
        for (int left = 30; left > 0; left--) {
            for (int l : Check.beyond(0, left - 1)) {
                Check.due("strike(" + l + ") of " + left, x.strike(l), UNKNOWN);
            }
            Check.due("LINES", x.count(1), left);
            Check.due("the first or the last", x.strike(left % 2 == 0 ? 0 : left - 1), left - 1);
        }
        for (int l : Check.beyond(0, -1)) {
            Check.due("strike(" + l + ") of none", x.strike(l), UNKNOWN);
        }
        Check.due("POSTS stay", x.count(0), 12);
    }

    private static void countLeastAndMost() {
        Check.sentence("What = 0 n, 1 LINES, 2 LINES of THE TREE, 3 ROOTS, 4 KINDS LEARNED, 5 bytes of THE TEXT, 6 ANSWERS, "
            + "7 the most LINES of a POST.");
        NameNets x = Check.net(12, Ends.full());
        Check.feed(x, "far 0 1;".repeat(12));
        Check.due("read()", x.read(), 12);
        Check.feed(x, " ".repeat(200));
        for (int kind = 0; kind < 3; kind++) {
            Check.due("KINDS LEARNED", x.count(4), kind);
            x.learn(kind);
            x.learn(kind);
        }
        int[] most = {12, 30, 11, 1, 3, 200, 12, 11};
        for (int what = 0; what < 8; what++) {
            Check.due("count(" + what + ") of a full one", x.count(what), most[what]);
        }
        x.net(12);
        int[] bare = {12, 0, 0, 12, 3, 200, 12, 0};
        for (int what = 0; what < 8; what++) {
            Check.due("count(" + what + ") without LINES", x.count(what), bare[what]);
        }
    }

    private static void countMostLines() {
        Check.sentence("7 the most LINES of a POST.");
        for (int n = 1; n <= 12; n++) {
            for (int middle = 0; middle < n; middle++) {
                NameNets x = Check.net(n, Ends.star(n, middle));
                Check.due("of " + n + ", the middle is " + middle, x.count(7), n - 1);
            }
        }
        NameNets x = Check.net(3, 0, 1, 0, 2);
        Check.due("strike(0)", x.strike(0), 1);
        Check.due("one is left", x.count(7), 1);
        Check.due("strike(0)", x.strike(0), 0);
        Check.due("none is left", x.count(7), 0);
    }

    private static void countOutside() {
        Check.sentence("7 the most LINES of a POST. OUTSIDE.");
        NameNets x = new NameNets();
        for (int what : Check.beyond(0, 7)) {
            Check.due("count(" + what + ")", x.count(what), OUTSIDE);
        }
        Check.due("count(0)", x.count(0), 1);
        Check.due("count(7)", x.count(7), 0);
    }

    private static void treeOfRoots() {
        Check.sentence("from POST 0 on, each POST that is not in it yet is a ROOT of its own");
        NameNets x = new NameNets();
        x.net(12);
        for (int p = 0; p < 12; p++) {
            Check.due("above " + p, x.told(p, 0), NONE);
            Check.due("ROOT of " + p, x.told(p, 1), p);
            Check.due("ENTER of " + p, x.name(0, p, 0), p);
            Check.due("LEAVE of " + p, x.name(0, p, 1), p);
        }
        Check.due("line(11, 0)", x.line(11, 0), 0);
        Check.due("the greater one is below the lesser one", x.told(11, 0), 0);
        Check.due("ROOTS", x.count(3), 11);
        Check.due("ENTER of 11 now", x.name(0, 11, 0), 1);
        Check.due("ENTER of 10 now", x.name(0, 10, 0), 11);
    }

    private static void treeByNumbers() {
        Check.sentence("POST by POST as they came in, their neighbours by numbers, come in those that are not in yet, below it.");
        // 3 and 5 come in below 0; 4, 6 and 7 below 3, which came in ahead of 5; 1 below 5; 2 below 4
        NameNets x = Check.net(8, 0, 5, 0, 3, 3, 7, 3, 6, 5, 6, 5, 1, 5, 4, 3, 4, 2, 1, 2, 4);
        int[] above = {NONE, 5, 4, 0, 3, 0, 3, 3};
        int[] deep = {0, 2, 3, 1, 2, 1, 2, 2};
        int[] enter = {0, 7, 3, 1, 2, 6, 4, 5};
        int[] leave = {7, 7, 3, 5, 3, 7, 4, 5};
        for (int p = 0; p < 8; p++) {
            Check.due("above " + p, x.told(p, 0), above[p]);
            Check.due("ROOT of " + p, x.told(p, 1), 0);
            Check.due("how deep " + p + " lies", x.told(p, 3), deep[p]);
            Check.due("ENTER of " + p, x.name(0, p, 0), enter[p]);
            Check.due("LEAVE of " + p, x.name(0, p, 1), leave[p]);
        }
        int[] ofTree = {1, 1, 1, 1, 0, 1, 0, 1, 0, 1};
        for (int l = 0; l < 10; l++) {
            Check.due("LINE " + l + " is of THE TREE", x.lines(l, 2), ofTree[l]);
        }
    }

    private static void rootThatWasBelow() {
        Check.sentence("from POST 0 on, each POST that is not in it yet is a ROOT of its own");
        NameNets x = Check.net(12, Ends.way(12));
        for (int p = 11; p > 0; p--) {
            Check.due("how deep " + p + " lies", x.told(p, 3), p);
            Check.due("strike(" + (p - 1) + ")", x.strike(p - 1), p - 1);
            Check.due("above " + p, x.told(p, 0), NONE);
            Check.due("its ROOT", x.told(p, 1), p);
            Check.due("it lies no more below another one", x.told(p, 3), 0);
            Check.due("no LINE between it and its ROOT", x.name(3, p, 0), 0);
        }
        Check.due("line(0, 11)", x.line(0, 11), 0);
        Check.due("how deep 11 lies", x.told(11, 3), 1);
        x.net(12);
        Check.due("a new NET", x.told(11, 3), 0);
    }

    private static void toldLeastAndMost() {
        Check.sentence("what = 0 the POST above it in THE TREE (NONE: a ROOT), 1 its ROOT, 2 how many LINES it has, "
            + "3 how deep it lies below its ROOT, 4 TURN, 5 RANK.");
        NameNets x = Check.net(12, Ends.way(12));
        for (int p = 0; p < 12; p++) {
            Check.due("above " + p, x.told(p, 0), p - 1);
            Check.due("ROOT of " + p, x.told(p, 1), 0);
            Check.due("LINES of " + p, x.told(p, 2), p == 0 || p == 11 ? 1 : 2);
            Check.due("how deep " + p + " lies", x.told(p, 3), p);
            // from the lesser end on, POST by POST
            Check.due("TURN of " + p, x.told(p, 4), p);
            // 1 .. 10 have two LINES, then 0 and 11
            Check.due("RANK of " + p, x.told(p, 5), p == 0 ? 10 : p == 11 ? 11 : p - 1);
        }
        NameNets y = Check.net(12, Ends.star(12, 11));
        Check.due("LINES of the middle", y.told(11, 2), 11);
        Check.due("RANK of the middle", y.told(11, 5), 0);
        Check.due("RANK of the first other one", y.told(0, 5), 1);
        Check.due("RANK of the last other one", y.told(10, 5), 11);
        // 0 .. 9 go, then 10 and 11 have one LINE each
        Check.due("TURN of the last other one", y.told(10, 4), 10);
        Check.due("TURN of the middle", y.told(11, 4), 11);
    }

    private static void toldRefused() {
        Check.sentence("4 TURN, 5 RANK. UNKNOWN, OUTSIDE.");
        NameNets x = Check.net(12, Ends.ring(12));
        for (int what : Check.beyond(0, 5)) {
            Check.due("told(0, " + what + ")", x.told(0, what), OUTSIDE);
            Check.due("told(11, " + what + ")", x.told(11, what), OUTSIDE);
            Check.due("told(12, " + what + ")", x.told(12, what), UNKNOWN);
        }
        for (int what = 0; what < 6; what++) {
            for (int p : Check.beyond(0, 11)) {
                Check.due("told(" + p + ", " + what + ")", x.told(p, what), UNKNOWN);
            }
        }
    }

    private static void turnsAndRanksOfLikeOnes() {
        Check.sentence("that with the fewest LINES to those left, of like ones the least number");
        NameNets x = new NameNets();
        x.net(12);
        for (int p = 0; p < 12; p++) {
            Check.due("TURN of " + p + " of like ones", x.told(p, 4), p);
        }
        Check.sentence("HUBS are the POSTS by LINES (most first), of like ones by numbers; RANK counts them from 0.");
        for (int p = 0; p < 12; p++) {
            Check.due("RANK of " + p + " of like ones", x.told(p, 5), p);
        }
    }

    private static void linesAsTold() {
        Check.sentence("Of a LINE: what = 0, 1 its ends (as told)");
        NameNets x = Check.net(12, 11, 0, 0, 1, 5, 4);
        int[] ends = {11, 0, 0, 1, 5, 4};
        for (int l = 0; l < 3; l++) {
            Check.due("end 0 of " + l, x.lines(l, 0), ends[2 * l]);
            Check.due("end 1 of " + l, x.lines(l, 1), ends[2 * l + 1]);
        }
    }

    private static void linesNames() {
        Check.sentence("NAMES of LINES: of a SPARE one k: bit k alone; of one of THE TREE: bit k for each SPARE LINE k "
            + "whose ends THE TREE joins by way of it.");
        NameNets bare = Check.net(12, Ends.way(12));
        for (int l = 0; l < 11; l++) {
            Check.due("of THE TREE, no SPARE", bare.lines(l, 3), 0);
        }
        NameNets ring = Check.net(12, Ends.ring(12));
        for (int l = 0; l < 12; l++) {
            // 0 goes to 1 .. 6 and to 11 .. 7; the SPARE is 6-7
            Check.due("LINE " + l + " is of THE TREE", ring.lines(l, 2), l == 6 ? 0 : 1);
            Check.due("all with the only SPARE", ring.lines(l, 3), 64);
        }
        // 0 is joined with all: these eleven are THE TREE, the other nineteen SPARE
        NameNets full = Check.net(12, Ends.full());
        for (int l = 0; l < 30; l++) {
            Check.due("LINE " + l + " is of THE TREE", full.lines(l, 2), l < 11 ? 1 : 0);
        }
        for (int l = 11; l < 30; l++) {
            Check.due("bit " + l + " alone", full.lines(l, 3), 1 << l);
        }
        // 1 has its LINES 11 .. 20, 2 has 11 and 21 .. 29, and 11 has 20 and 29
        Check.due("0-1", full.lines(0, 3), 0x1ff800);
        Check.due("0-2", full.lines(1, 3), 0x3fe00800);
        Check.due("0-11", full.lines(10, 3), 1 << 20 | 1 << 29);
    }

    private static void firstLineIsSpare() {
        Check.sentence("LINES of THE TREE are those; the others are SPARE.");
        NameNets x = Check.net(3, 1, 2, 0, 1, 0, 2);
        int[] ofTree = {0, 1, 1};
        for (int l = 0; l < 3; l++) {
            Check.due("LINE " + l + " is of THE TREE", x.lines(l, 2), ofTree[l]);
            Check.due("all with bit 0 alone", x.lines(l, 3), 1);
        }
        Check.due("LINES of THE TREE", x.count(2), 2);
        Check.due("strike(1)", x.strike(1), 2);
        Check.due("LINE 0 is of THE TREE now", x.lines(0, 2), 1);
        Check.due("and no LINE is SPARE", x.lines(0, 3) | x.lines(1, 3), 0);
    }

    private static void linesRefused() {
        Check.sentence("2 whether it is of THE TREE (1, 0), 3 its NAME. UNKNOWN, OUTSIDE.");
        NameNets x = Check.net(12, Ends.full());
        for (int what : Check.beyond(0, 3)) {
            Check.due("lines(0, " + what + ")", x.lines(0, what), OUTSIDE);
            Check.due("lines(29, " + what + ")", x.lines(29, what), OUTSIDE);
            Check.due("lines(30, " + what + ")", x.lines(30, what), UNKNOWN);
        }
        for (int what = 0; what < 4; what++) {
            for (int l : Check.beyond(0, 29)) {
                Check.due("lines(" + l + ", " + what + ")", x.lines(l, what), UNKNOWN);
            }
        }
        x.net(12);
        Check.due("without any", x.lines(0, 0), UNKNOWN);
        Check.due("without any, what", x.lines(0, 4), UNKNOWN);
    }
}
