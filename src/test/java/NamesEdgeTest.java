/** The bounds of NAMES, sentence by sentence: promises 9 to 12 and what 'Terms' say of them. */
public final class NamesEdgeTest {
    private static final int NONE = -1, UNKNOWN = -1001, OUTSIDE = -1002;

    private NamesEdgeTest() {
    }

    public static void main(String[] args) {
        nameOfNoSuchNumber();
        nameRefused();
        enterAndLeave();
        aboveAtItsBounds();
        joinedNames();
        joinedByOneOfBoth();
        farNames();
        farTellsLess();
        farLeastAndMost();
        partedNames();
        partedByNoLine();
        partedBySix();
        partedByAllSix();
        partedByASubset();
        partedUnlikeRoots();
        partedRefused();
        bitsByPosts();
        bitsOfLongest();
        bitsOfTree();
        bitsRefused();
        askRefused();
        Check.finish();
    }

    private static void isName(NameNets x, int kind, int p, int... due) {
        String call = "name(" + kind + ", " + p + ", ";
        Check.due(call + "NONE)", x.name(kind, p, NONE), due.length);
        for (int k = 0; k < due.length; k++) {
            Check.due(call + k + ")", x.name(kind, p, k), due[k]);
        }
        Check.due(call + due.length + ")", x.name(kind, p, due.length), NONE);
    }

    private static void nameOfNoSuchNumber() {
        Check.sentence("Number k of a POST's NAME of a KIND (0 .. 3); k = NONE: how many there are; NONE: there is none such.");
        NameNets x = Check.net(12, Ends.full());
        for (int kind = 0; kind < 4; kind++) {
            for (int p = 0; p < 12; p += 11) {
                int many = x.name(kind, p, NONE);
                Check.isTrue("a NAME has a number", many >= 1);
                Check.isTrue("the first", x.name(kind, p, 0) >= 0);
                Check.isTrue("the last", x.name(kind, p, many - 1) >= 0);
                for (int k : new int[] {many, many + 1, 24, 1000, Integer.MAX_VALUE, -2, -3, Integer.MIN_VALUE}) {
                    Check.due("name(" + kind + ", " + p + ", " + k + ")", x.name(kind, p, k), NONE);
                }
            }
        }
    }

    private static void nameRefused() {
        Check.sentence("NONE: there is none such. UNKNOWN, OUTSIDE.");
        for (int n : new int[] {1, 7, 12}) {
            NameNets x = Check.net(n, Ends.way(n));
            for (int p : Check.beyond(0, n - 1)) {
                for (int kind = -1; kind <= 4; kind++) {
                    Check.due("name(" + kind + ", " + p + ", 0)", x.name(kind, p, 0), UNKNOWN);
                    Check.due("name(" + kind + ", " + p + ", NONE)", x.name(kind, p, NONE), UNKNOWN);
                }
            }
            for (int kind : Check.beyond(0, 3)) {
                for (int k : new int[] {NONE, 0, -2, 99, Integer.MIN_VALUE, Integer.MAX_VALUE}) {
                    Check.due("name(" + kind + ", 0, " + k + ")", x.name(kind, 0, k), OUTSIDE);
                    Check.due("name(" + kind + ", last, " + k + ")", x.name(kind, n - 1, k), OUTSIDE);
                }
            }
        }
    }

    private static void enterAndLeave() {
        Check.sentence("ENTER counts them from 0 as they are come to, LEAVE is the greatest ENTER of the POST and all below it.");
        NameNets way = Check.net(12, Ends.way(12));
        for (int p = 0; p < 12; p++) {
            isName(way, 0, p, p, 11);
        }
        // 0 is the ROOT, the middle is below it, and all others below that
        NameNets star = Check.net(12, Ends.star(12, 11));
        isName(star, 0, 0, 0, 11);
        isName(star, 0, 11, 1, 11);
        for (int p = 1; p < 11; p++) {
            isName(star, 0, p, p + 1, p + 1);
        }
    }

    private static void aboveAtItsBounds() {
        Check.sentence("a is ABOVE b, if ENTER of b lies from ENTER to LEAVE of a.");
        // 0 is a ROOT alone; 1 has 2 and 3 below it, 3 has 4; 5 is a ROOT: ENTER is the number of each
        NameNets x = Check.net(6, 1, 2, 1, 3, 3, 4);
        Check.due("one less than ENTER", x.ask(0, 1, 0), 0);
        Check.due("ENTER itself", x.ask(0, 1, 1), 1);
        Check.due("within", x.ask(0, 1, 3), 1);
        Check.due("LEAVE itself", x.ask(0, 1, 4), 1);
        Check.due("one more than LEAVE", x.ask(0, 1, 5), 0);
        Check.due("one that is ENTER and LEAVE", x.ask(0, 2, 2), 1);
        Check.due("one less", x.ask(0, 2, 1), 0);
        Check.due("one more", x.ask(0, 2, 3), 0);
        Check.due("the first of all", x.ask(0, 0, 0), 1);
        Check.due("the last of all", x.ask(0, 5, 5), 1);
    }

    private static void joinedNames() {
        Check.sentence("The NAME: its TURN, then the TURNS of its neighbours that are taken away later, rising.");
        // eight POSTS, all joined: the longest NAME that thirty LINES allow
        NameNets x = Check.net(8, Ends.pairs(8, 28));
        for (int p = 0; p < 8; p++) {
            int[] due = new int[8 - p];
            for (int k = 0; k < due.length; k++) {
                due[k] = p + k;
            }
            isName(x, 1, p, due);
        }
        // 1 and 2 go first, then 0; the neighbours of 3 are told by TURNS, not by numbers
        NameNets y = Check.net(6, 0, 5, 0, 4, 0, 3, 3, 4, 3, 5, 4, 5, 1, 0, 2, 0);
        isName(y, 1, 1, 0, 2);
        isName(y, 1, 2, 1, 2);
        isName(y, 1, 0, 2, 3, 4, 5);
        isName(y, 1, 5, 5);
        NameNets apart = Check.net(12);
        isName(apart, 1, 0, 0);
        isName(apart, 1, 11, 11);
    }

    private static void joinedByOneOfBoth() {
        Check.sentence("a and b are JOINED, if the TURN of one stands behind that of the other one in its NAME.");
        NameNets x = Check.net(12, Ends.full());
        for (int p = 0; p < 12; p++) {
            Check.due("0 and " + p, x.ask(1, 0, p), p == 0 ? 0 : 1);
            Check.due(p + " and 0", x.ask(1, p, 0), p == 0 ? 0 : 1);
            Check.due("11 and " + p, x.ask(1, 11, p), p < 3 ? 1 : 0);
            Check.due(p + " and 11", x.ask(1, p, 11), p < 3 ? 1 : 0);
            Check.due("one and itself", x.ask(1, p, p), 0);
        }
    }

    private static void farNames() {
        Check.sentence("a POST come to at a distance d gets RANK and d put behind its NAME");
        NameNets apart = Check.net(12);
        for (int p = 0; p < 12; p++) {
            isName(apart, 2, p, p, 0);
        }
        // eight POSTS, all joined: no HUB tells for another one that it is as near as 1
        NameNets x = Check.net(8, Ends.pairs(8, 28));
        for (int p = 0; p < 8; p++) {
            int[] due = new int[2 * p + 2];
            for (int rank = 0; rank <= p; rank++) {
                due[2 * rank] = rank;
                due[2 * rank + 1] = rank == p ? 0 : 1;
            }
            isName(x, 2, p, due);
        }
        // a way 1-0-2: 0 has RANK 0
        NameNets way = Check.net(3, 1, 0, 0, 2);
        isName(way, 2, 0, 0, 0);
        isName(way, 2, 1, 0, 1, 1, 0);
        isName(way, 2, 2, 0, 1, 2, 0);
    }

    private static void farTellsLess() {
        Check.sentence("and is gone on from, if the NAMES as they are so far do not tell that it and the HUB are as FAR as d or less; "
            + "else neither.");
        // a ring of four 0-1-2-3: HUB 1 finds 0 told as 1, so it does not go on there; 3 is told as 2 by HUB 0,
        // and is come to at 2 by way of 2: just as FAR, so neither
        NameNets x = Check.net(4, Ends.ring(4));
        isName(x, 2, 0, 0, 0);
        isName(x, 2, 1, 0, 1, 1, 0);
        isName(x, 2, 2, 0, 2, 1, 1, 2, 0);
        isName(x, 2, 3, 0, 1, 2, 1, 3, 0);
    }

    private static void farLeastAndMost() {
        Check.sentence("FAR of a and b: the least sum of both distances, over RANKS that are in both NAMES; NONE: there is none.");
        NameNets x = Check.net(12, Ends.way(12));
        for (int p = 0; p < 12; p++) {
            Check.due("from the first to " + p, x.ask(2, 0, p), p);
            Check.due("from " + p + " to the last", x.ask(2, p, 11), 11 - p);
            Check.due("one and itself", x.ask(2, p, p), 0);
        }
        Check.due("strike(5)", x.strike(5), 10);
        Check.due("no way", x.ask(2, 5, 6), NONE);
        Check.due("no way", x.ask(2, 11, 0), NONE);
        Check.due("half a way", x.ask(2, 6, 11), 5);
        NameNets ring = Check.net(12, Ends.ring(12));
        for (int p = 0; p < 12; p++) {
            Check.due("around from 0 to " + p, ring.ask(2, 0, p), Math.min(p, 12 - p));
            Check.due("around from 7 to " + p, ring.ask(2, 7, p), Math.min(Math.abs(p - 7), 12 - Math.abs(p - 7)));
        }
    }

    private static void partedNames() {
        Check.sentence("of a POST one number: bit k for each LINE k of THE TREE between it and its ROOT.");
        NameNets x = Check.net(12, Ends.way(12));
        for (int p = 0; p < 12; p++) {
            isName(x, 3, p, (1 << p) - 1);
        }
        NameNets apart = Check.net(12);
        isName(apart, 3, 11, 0);
        // nineteen LINES among 1 .. 7 first, so that LINES of THE TREE are the last ones, up to 29
        NameNets y = Check.net(12);
        int made = 0;
        for (int a = 1; a < 8; a++) {
            for (int b = a + 1; b < 8 && made < 19; b++) {
                Check.due("line", y.line(a, b), made);
                made++;
            }
        }
        for (int p = 1; p < 12; p++) {
            Check.due("line(0, " + p + ")", y.line(0, p), 18 + p);
        }
        for (int p = 1; p < 12; p++) {
            isName(y, 3, p, 1 << 18 + p);
        }
        Check.due("the last bit", y.name(3, 11, 0), 1 << 29);
        Check.due("parted by LINE 29", y.parted(0, 11, 1 << 29), 1);
        Check.due("others not by LINE 29", y.parted(0, 10, 1 << 29), 0);
    }

    private static void partedByNoLine() {
        Check.sentence("When a SET of LINES FAILS, a and b are PARTED");
        NameNets x = Check.net(12, Ends.way(11));
        Check.due("no LINE FAILS", x.parted(0, 10, 0), 0);
        Check.due("no LINE FAILS, one apart", x.parted(0, 11, 0), 1);
        Check.due("a is b", x.parted(10, 10, 0), 0);
        Check.due("a is b, apart", x.parted(11, 11, 0), 0);
        Check.due("a is b, all its LINES FAIL", x.parted(5, 5, 3 << 4), 0);
        for (int l = 0; l < 10; l++) {
            Check.due("ends by LINE " + l, x.parted(0, 10, 1 << l), 1);
            Check.due("its own ends", x.parted(l + 1, l, 1 << l), 1);
            Check.due("those ahead of it", x.parted(0, l, 1 << l), 0);
            Check.due("those behind it", x.parted(10, l + 1, 1 << l), 0);
        }
    }

    private static void partedBySix() {
        Check.sentence("Whether a and b are PARTED, if a SET of LINES (6 at most) FAILS: 1, 0.");
        NameNets x = Check.net(12, Ends.full());
        for (int many = 0; many <= 30; many++) {
            int first = (1 << many) - 1;
            int behind = many == 0 ? 0 : first << 30 - many;
            Check.due("the first " + many, x.parted(0, 11, first), many <= 6 ? 0 : OUTSIDE);
            Check.due("the last " + many, x.parted(0, 11, behind), many <= 6 ? 0 : OUTSIDE);
        }
        Check.due("six scattered ones", x.parted(0, 11, 0x21084201), 0);
        Check.due("seven scattered ones", x.parted(0, 11, 0x21084203), OUTSIDE);
    }

    private static void partedByAllSix() {
        Check.sentence("if some SUBSET of it has NAMES that give 0, put together bit by bit (unlike 1, like 0)");
        // seven POSTS, all joined: each has six LINES, and no five part two POSTS
        NameNets x = Check.net(7, Ends.pairs(7, 21));
        Check.due("all six of 0", x.parted(0, 6, 63), 1);
        Check.due("and two others are not", x.parted(1, 6, 63), 0);
        for (int l = 0; l < 6; l++) {
            Check.due("all but LINE " + l, x.parted(0, 6, 63 & ~(1 << l)), 0);
            Check.due("another one for LINE " + l, x.parted(0, 6, 63 & ~(1 << l) | 1 << 20), 0);
        }
        // 6 has LINES 5, 10, 14, 17, 19, 20
        int last = 1 << 5 | 1 << 10 | 1 << 14 | 1 << 17 | 1 << 19 | 1 << 20;
        Check.due("all six of 6", x.parted(3, 6, last), 1);
        Check.due("but one", x.parted(3, 6, last & ~(1 << 20)), 0);
    }

    private static void partedByASubset() {
        Check.sentence("and has an odd number of LINES between a and b in THE TREE (those in just one of both numbers).");
        // a ring of twelve: THE TREE goes 0 .. 6 and 11 .. 7, the SPARE is LINE 6
        NameNets x = Check.net(12, Ends.ring(12));
        Check.due("one alone", x.parted(0, 6, 1), 0);
        Check.due("two between, none on the other side", x.parted(0, 6, 3), 0);
        Check.due("the SPARE and one between", x.parted(0, 6, 65), 1);
        Check.due("the SPARE and one not between", x.parted(1, 6, 65), 0);
        Check.due("two of THE TREE, one between", x.parted(1, 3, 2 | 1 << 11), 1);
        Check.due("two of THE TREE, both between", x.parted(11, 1, 1 | 1 << 11), 0);
        Check.due("what lies between those two", x.parted(0, 1, 1 | 1 << 11), 1);
        Check.due("six around one", x.parted(0, 6, 63), 0);
        Check.due("six, of these two that part", x.parted(0, 6, 0x421 | 0x1c0), 1);
    }

    private static void partedUnlikeRoots() {
        Check.sentence("a and b are PARTED, if their ROOTS are unlike");
        NameNets x = Check.net(12, 0, 1, 10, 11);
        for (int set = 0; set < 4; set++) {
            Check.due("0 and 11", x.parted(0, 11, set), 1);
            Check.due("11 and 1", x.parted(11, 1, set), 1);
            Check.due("0 and 1", x.parted(0, 1, set), set & 1);
            Check.due("10 and 11", x.parted(10, 11, set), set >> 1);
        }
    }

    private static void partedRefused() {
        Check.sentence("UNKNOWN (POSTS, LINES of the SET), OUTSIDE (more than 6).");
        NameNets x = Check.net(12, Ends.full());
        int[] noLines = {1 << 30, Integer.MIN_VALUE, 3 << 30, Integer.MAX_VALUE, -1, 1 << 30 | 1};
        for (int set : noLines) {
            Check.due("parted(0, 1, " + set + ")", x.parted(0, 1, set), UNKNOWN);
        }
        Check.due("LINE 29", x.parted(0, 1, 1 << 29), 0);
        for (int p : Check.beyond(0, 11)) {
            for (int set : new int[] {0, 1 << 29, 127, 1 << 30}) {
                Check.due("parted(" + p + ", 0, " + set + ")", x.parted(p, 0, set), UNKNOWN);
                Check.due("parted(11, " + p + ", " + set + ")", x.parted(11, p, set), UNKNOWN);
            }
        }
        for (int left = 29; left >= 7; left--) {
            Check.due("strike(0)", x.strike(0), left);
            Check.due("the first LINE that there is not", x.parted(0, 0, 1 << left), UNKNOWN);
            Check.due("the last one that there is", x.parted(0, 0, 1 << left - 1), 0);
            Check.due("all of them", x.parted(0, 0, (1 << left) - 1), OUTSIDE);
        }
        Check.due("strike(6)", x.strike(6), 6);
        Check.due("all six", x.parted(0, 0, 63), 0);
        Check.due("a seventh that there is not", x.parted(0, 0, 127), UNKNOWN);
        x.net(12);
        Check.due("without LINES", x.parted(0, 0, 1), UNKNOWN);
        Check.due("without LINES, the empty SET", x.parted(0, 0, 0), 0);
    }

    private static void bitsByPosts() {
        Check.sentence("w is how many binary figures n less 1 has (1 at least); KIND 0: 2 w; KIND 1, 2: w for each number");
        int[] w = {1, 1, 2, 2, 3, 3, 3, 3, 4, 4, 4, 4};
        for (int n = 1; n <= 12; n++) {
            NameNets x = Check.net(n, Ends.star(n, 0));
            int figures = w[n - 1];
            Check.due("KIND 0, the longest of " + n, x.bits(0, 0), 2 * figures);
            Check.due("KIND 0, all of " + n, x.bits(0, 1), 2 * figures * n);
            Check.due("KIND 0, the first of " + n, x.bits(0, 2), 0);
            // each but the last to go has one number more
            Check.due("KIND 1, all of " + n, x.bits(1, 1), figures * (2 * n - 1));
            Check.due("KIND 1, the longest of " + n, x.bits(1, 0), n == 1 ? 1 : 2 * figures);
            // the middle has two numbers, the others four
            Check.due("KIND 2, all of " + n, x.bits(2, 1), figures * (4 * n - 2));
            Check.due("KIND 2, the longest of " + n, x.bits(2, 0), n == 1 ? 2 : 4 * figures);
            Check.due("KIND 2, the first of " + n, x.bits(2, 2), n == 1 ? 0 : 1);
        }
    }

    private static void bitsOfLongest() {
        Check.sentence("what = 0 of the longest NAME, 1 of all together, 2 the first POST with the longest.");
        NameNets x = Check.net(8, Ends.pairs(8, 28));
        Check.due("KIND 1, the longest", x.bits(1, 0), 24);
        Check.due("KIND 1, all", x.bits(1, 1), 3 * 36);
        Check.due("KIND 1, the first is the longest", x.bits(1, 2), 0);
        Check.due("KIND 2, the longest", x.bits(2, 0), 48);
        Check.due("KIND 2, all", x.bits(2, 1), 3 * 72);
        Check.due("KIND 2, the last is the longest", x.bits(2, 2), 7);
        Check.due("a ninth POST", x.post(), 8);
        Check.due("KIND 2, one figure more", x.bits(2, 0), 64);
        Check.due("KIND 2, not the ninth", x.bits(2, 2), 7);
        // two pairs: 0-1 and 2-3; of KIND 1 both 0 and 2 have two numbers, of KIND 2 both 1 and 3 have four
        NameNets like = Check.net(4, 0, 1, 2, 3);
        Check.due("KIND 1, of like ones the first", like.bits(1, 2), 0);
        Check.due("KIND 2, of like ones the first", like.bits(2, 2), 1);
    }

    private static void bitsOfTree() {
        Check.sentence("KIND 3: as many as THE TREE has LINES.");
        for (int n = 1; n <= 12; n++) {
            NameNets x = Check.net(n, Ends.way(n));
            Check.due("the longest of " + n, x.bits(3, 0), n - 1);
            Check.due("all of " + n, x.bits(3, 1), n * (n - 1));
            Check.due("the first of " + n, x.bits(3, 2), 0);
        }
        NameNets full = Check.net(12, Ends.full());
        Check.due("SPARE LINES do not count", full.bits(3, 0), 11);
        NameNets bare = Check.net(12);
        Check.due("no LINES", bare.bits(3, 0), 0);
        Check.due("no LINES", bare.bits(3, 1), 0);
        Check.due("no LINES", bare.bits(3, 2), 0);
    }

    private static void bitsRefused() {
        Check.sentence("2 the first POST with the longest. OUTSIDE.");
        NameNets x = Check.net(12, Ends.full());
        for (int kind : Check.beyond(0, 3)) {
            for (int what = -1; what <= 3; what++) {
                Check.due("bits(" + kind + ", " + what + ")", x.bits(kind, what), OUTSIDE);
            }
        }
        for (int kind = 0; kind <= 3; kind++) {
            for (int what : Check.beyond(0, 2)) {
                Check.due("bits(" + kind + ", " + what + ")", x.bits(kind, what), OUTSIDE);
            }
            Check.isTrue("bits(" + kind + ", 0)", x.bits(kind, 0) > 0);
            Check.isTrue("bits(" + kind + ", 2)", x.bits(kind, 2) >= 0);
        }
    }

    private static void askRefused() {
        Check.sentence("KIND 0 whether a is ABOVE b (1, 0), 1 whether they are JOINED, 2 FAR (NONE). UNKNOWN, OUTSIDE.");
        NameNets x = Check.net(12, Ends.full());
        for (int kind : Check.beyond(0, 2)) {
            Check.due("ask(" + kind + ", 0, 0)", x.ask(kind, 0, 0), OUTSIDE);
            Check.due("ask(" + kind + ", 0, 11)", x.ask(kind, 0, 11), OUTSIDE);
            Check.due("ask(" + kind + ", 12, 0)", x.ask(kind, 12, 0), UNKNOWN);
            Check.due("ask(" + kind + ", 0, -1)", x.ask(kind, 0, -1), UNKNOWN);
        }
        for (int kind = 0; kind < 3; kind++) {
            for (int p : Check.beyond(0, 11)) {
                Check.due("ask(" + kind + ", 11, " + p + ")", x.ask(kind, 11, p), UNKNOWN);
                Check.due("ask(" + kind + ", " + p + ", 0)", x.ask(kind, p, 0), UNKNOWN);
                Check.due("ask(" + kind + ", " + p + ", " + p + ")", x.ask(kind, p, p), UNKNOWN);
            }
        }
        x.net(1);
        Check.due("one POST, the second", x.ask(2, 0, 1), UNKNOWN);
        Check.due("one POST, the first", x.ask(2, 0, 0), 0);
    }
}
