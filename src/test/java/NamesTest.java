/** Promises 9 to 12: name, bits, ask, parted. */
public final class NamesTest {
    private static final int NONE = -1, UNKNOWN = -1001, OUTSIDE = -1002;
    private static final int[] WRONG_POSTS = {-1, 12, Integer.MIN_VALUE, Integer.MAX_VALUE};

    private NamesTest() {
    }

    public static void main(String[] args) {
        nameAbove();
        nameJoined();
        nameFar();
        nameParted();
        nameRefused();
        bits();
        bitsByPosts();
        ask();
        parted();
        partedByMany();
        Check.finish();
    }

    private static void isName(NameNets x, int kind, int p, int... due) {
        String call = "name(" + kind + ", " + p + ", ";
        Check.due(call + "-1)", x.name(kind, p, -1), due.length);
        for (int k = 0; k < due.length; k++) {
            Check.due(call + k + ")", x.name(kind, p, k), due[k]);
        }
        Check.due(call + due.length + ")", x.name(kind, p, due.length), NONE);
        Check.due(call + "-2)", x.name(kind, p, -2), NONE);
        Check.due(call + "min)", x.name(kind, p, Integer.MIN_VALUE), NONE);
        Check.due(call + "max)", x.name(kind, p, Integer.MAX_VALUE), NONE);
    }

    private static void nameAbove() {
        // below 0: 1, 2, 4; below 1: 5; root 3 with 6 below it
        NameNets x = Check.net(7, 2, 0, 4, 0, 5, 4, 1, 0, 5, 1, 6, 3);
        isName(x, 0, 0, 0, 4);
        isName(x, 0, 1, 1, 2);
        isName(x, 0, 2, 3, 3);
        isName(x, 0, 3, 5, 6);
        isName(x, 0, 4, 4, 4);
        isName(x, 0, 5, 2, 2);
        isName(x, 0, 6, 6, 6);
    }

    private static void nameJoined() {
        NameNets x = Check.net(5, 0, 1, 1, 2, 2, 0, 2, 3, 1, 4);
        isName(x, 1, 0, 2, 3, 4);
        isName(x, 1, 1, 3, 4);
        isName(x, 1, 2, 4);
        isName(x, 1, 3, 0, 4);
        isName(x, 1, 4, 1, 3);
    }

    private static void nameFar() {
        // a ring of five: all with two lines, so RANKS are numbers
        NameNets x = Check.net(5, 0, 1, 1, 2, 2, 3, 3, 4, 4, 0);
        isName(x, 2, 0, 0, 0);
        isName(x, 2, 1, 0, 1, 1, 0);
        isName(x, 2, 2, 0, 2, 1, 1, 2, 0);
        isName(x, 2, 3, 0, 2, 1, 2, 2, 1, 3, 0);
        isName(x, 2, 4, 0, 1, 2, 2, 3, 1, 4, 0);
        // a star: its middle tells all, whichever number it has
        NameNets y = Check.net(4, 3, 0, 3, 1, 3, 2);
        isName(y, 2, 3, 0, 0);
        isName(y, 2, 0, 0, 1, 1, 0);
        isName(y, 2, 2, 0, 1, 3, 0);
    }

    private static void nameParted() {
        NameNets x = Check.net(4, 1, 0, 3, 2, 0, 2, 3, 1, 2, 1);
        isName(x, 3, 0, 0);
        isName(x, 3, 1, 1);
        isName(x, 3, 2, 4);
        isName(x, 3, 3, 9);
        x.strike(0);
        // 0-2 is line 1 now, 2-1 is line 3, 3-2 line 0
        isName(x, 3, 1, 10);
        isName(x, 3, 3, 3);
    }

    private static void nameRefused() {
        NameNets x = Check.net(12);
        for (int p : WRONG_POSTS) {
            Check.due("name(0, " + p + ", 0)", x.name(0, p, 0), UNKNOWN);
            Check.due("name(9, " + p + ", 0)", x.name(9, p, 0), UNKNOWN);
        }
        Check.due("name(4, 0, 0)", x.name(4, 0, 0), OUTSIDE);
        Check.due("name(-1, 0, 0)", x.name(-1, 0, 0), OUTSIDE);
        Check.due("name(4, 0, 99)", x.name(4, 0, 99), OUTSIDE);
    }

    private static void bits() {
        // a ring of five, w = 3
        NameNets x = Check.net(5, 0, 1, 1, 2, 2, 3, 3, 4, 4, 0);
        int[][] due = {{6, 30, 0}, {9, 30, 0}, {24, 84, 3}, {4, 20, 0}};
        for (int kind = 0; kind < 4; kind++) {
            for (int what = 0; what < 3; what++) {
                Check.due("bits(" + kind + ", " + what + ")", x.bits(kind, what), due[kind][what]);
            }
            Check.due("bits(" + kind + ", 3)", x.bits(kind, 3), OUTSIDE);
            Check.due("bits(" + kind + ", -1)", x.bits(kind, -1), OUTSIDE);
        }
        Check.due("bits(4, 0)", x.bits(4, 0), OUTSIDE);
        Check.due("bits(-1, 0)", x.bits(-1, 0), OUTSIDE);
    }

    private static void bitsByPosts() {
        int[] w = {1, 1, 2, 2, 3, 3, 3, 3, 4, 4, 4, 4};
        NameNets x = new NameNets();
        for (int n = 1; n <= 12; n++) {
            x.net(n);
            Check.due("bits(0, 0) of " + n, x.bits(0, 0), 2 * w[n - 1]);
            Check.due("bits(1, 1) of " + n, x.bits(1, 1), n * w[n - 1]);
            Check.due("bits(2, 0) of " + n, x.bits(2, 0), 2 * w[n - 1]);
            Check.due("bits(3, 0) without lines", x.bits(3, 0), 0);
            Check.due("bits(3, 2) without lines", x.bits(3, 2), 0);
        }
    }

    private static void ask() {
        NameNets x = Check.net(7, 2, 0, 4, 0, 5, 4, 1, 0, 5, 1, 6, 3);
        Check.due("ask(0, 1, 5)", x.ask(0, 1, 5), 1);
        Check.due("ask(0, 4, 5)", x.ask(0, 4, 5), 0);
        Check.due("ask(0, 5, 1)", x.ask(0, 5, 1), 0);
        Check.due("ask(0, 5, 5)", x.ask(0, 5, 5), 1);
        Check.due("ask(0, 0, 6)", x.ask(0, 0, 6), 0);
        Check.due("ask(1, 4, 5)", x.ask(1, 4, 5), 1);
        Check.due("ask(1, 5, 4)", x.ask(1, 5, 4), 1);
        Check.due("ask(1, 5, 0)", x.ask(1, 5, 0), 0);
        Check.due("ask(1, 5, 5)", x.ask(1, 5, 5), 0);
        Check.due("ask(2, 5, 2)", x.ask(2, 5, 2), 3);
        Check.due("ask(2, 2, 5)", x.ask(2, 2, 5), 3);
        Check.due("ask(2, 6, 6)", x.ask(2, 6, 6), 0);
        Check.due("ask(2, 6, 0)", x.ask(2, 6, 0), NONE);
        for (int p : WRONG_POSTS) {
            Check.due("ask(0, 0, " + p + ")", x.ask(0, 0, p), UNKNOWN);
            Check.due("ask(3, " + p + ", 0)", x.ask(3, p, 0), UNKNOWN);
        }
        Check.due("ask(3, 0, 0)", x.ask(3, 0, 0), OUTSIDE);
        Check.due("ask(-1, 0, 0)", x.ask(-1, 0, 0), OUTSIDE);
    }

    private static void parted() {
        // a ring 0-1-2-3 with a tail 3-4, and 5 apart
        NameNets x = Check.net(6, 0, 1, 1, 2, 2, 3, 3, 0, 3, 4);
        Check.due("a ring without one line", x.parted(0, 2, 1), 0);
        Check.due("a ring without two lines, both sides", x.parted(0, 2, 5), 1);
        Check.due("a ring without two lines, one side", x.parted(0, 2, 3), 0);
        Check.due("the post between both", x.parted(1, 3, 3), 1);
        Check.due("the tail", x.parted(4, 0, 16), 1);
        Check.due("the tail and the ring's line", x.parted(4, 1, 17), 1);
        Check.due("posts without the tail", x.parted(3, 1, 16), 0);
        Check.due("all lines", x.parted(1, 2, 31), 1);
        Check.due("a post and itself", x.parted(1, 1, 31), 0);
        Check.due("no line, one apart", x.parted(5, 1, 0), 1);
        Check.due("apart and itself", x.parted(5, 5, 0), 0);
        Check.due("a line that is not", x.parted(0, 1, 32), UNKNOWN);
        Check.due("line 31", x.parted(0, 1, Integer.MIN_VALUE), UNKNOWN);
        Check.due("all bits", x.parted(0, 1, -1), UNKNOWN);
        Check.due("a post that is not", x.parted(0, 6, 1), UNKNOWN);
        Check.due("a post that is not", x.parted(-1, 0, 1), UNKNOWN);
    }

    private static void partedByMany() {
        NameNets x = Check.net(8, 0, 1, 0, 2, 0, 3, 0, 4, 0, 5, 0, 6, 0, 7);
        Check.due("six lines", x.parted(0, 7, 63), 0);
        Check.due("six lines", x.parted(0, 7, 126), 1);
        Check.due("seven lines", x.parted(0, 7, 127), OUTSIDE);
        Check.due("seven lines, a post that is not", x.parted(0, 8, 127), UNKNOWN);
        Check.due("eight lines, one that is not", x.parted(0, 7, 255), UNKNOWN);
    }
}
