import java.util.ArrayList;
import java.util.List;
import java.util.Random;

/**
 * 'From two names alone': what is asked is worked out here from the names that the class itself tells. Beside these only the
 * post above each is known, as ROOTS and parcels need it, and how many LINES THE TREE has, as BITS of KIND 3 do.
 * As an object is meant for 512 calls, the net is made anew for each part.
 */
public final class AloneTest {
    private static final int NONE = -1, DAMAGED = -1005;
    private static final int NETS = 240;
    private static final int MOST_FAILING = 6;

    private final int n;
    private final List<int[]> lines = new ArrayList<>();
    private final Random random;
    private final String title;
    /** By KIND, then POST: its NAME as told. */
    private final int[][][] names = new int[4][][];
    private final int[] lineNames;
    private final int[] above;

    private AloneTest(int seed) {
        random = new Random(seed);
        n = 1 + seed % 12;
        title = "net " + seed + ": ";
        for (int tries = random.nextInt(60); tries > 0 && lines.size() < 30; tries--) {
            addLine(random.nextInt(n), random.nextInt(n));
        }
        for (int kind = 0; kind < 4; kind++) {
            names[kind] = namesOf(kind);
        }
        NameNets x = made();
        lineNames = new int[lines.size()];
        for (int l = 0; l < lineNames.length; l++) {
            lineNames[l] = x.lines(l, 3);
        }
        above = new int[n];
        for (int p = 0; p < n; p++) {
            above[p] = x.told(p, 0);
        }
    }

    public static void main(String[] args) {
        for (int seed = 0; seed < NETS; seed++) {
            AloneTest test = new AloneTest(seed);
            test.questions();
            test.parted();
            test.parcels();
            test.stretch();
            test.cuts();
            test.bits();
            test.book();
        }
        Check.finish();
    }

    private void addLine(int a, int b) {
        for (int[] line : lines) {
            if (line[0] == a && line[1] == b || line[0] == b && line[1] == a) {
                return;
            }
        }
        if (a != b) {
            lines.add(new int[] {a, b});
        }
    }

    private NameNets made() {
        NameNets x = new NameNets();
        x.net(n);
        for (int[] line : lines) {
            x.line(line[0], line[1]);
        }
        return x;
    }

    private int[][] namesOf(int kind) {
        NameNets x = made();
        int[][] rows = new int[n][];
        for (int p = 0; p < n; p++) {
            rows[p] = new int[x.name(kind, p, NONE)];
            for (int k = 0; k < rows[p].length; k++) {
                rows[p][k] = x.name(kind, p, k);
            }
        }
        return rows;
    }

    private void due(String call, int got, int want) {
        Check.due(title + call, got, want);
    }

    private static boolean standsBehind(int turn, int[] name) {
        for (int k = 1; k < name.length; k++) {
            if (name[k] == turn) {
                return true;
            }
        }
        return false;
    }

    /** What two NAMES of a KIND tell. */
    private static int reply(int kind, int[] a, int[] b) {
        if (kind == 0) {
            return a[0] <= b[0] && b[0] <= a[1] ? 1 : 0;
        }
        if (kind == 1) {
            return standsBehind(a[0], b) || standsBehind(b[0], a) ? 1 : 0;
        }
        int least = Integer.MAX_VALUE;
        for (int i = 0; i < a.length; i += 2) {
            for (int j = 0; j < b.length; j += 2) {
                least = a[i] == b[j] ? Math.min(least, a[i + 1] + b[j + 1]) : least;
            }
        }
        return least == Integer.MAX_VALUE ? NONE : least;
    }

    private void questions() {
        Check.sentence("By NAMES of THE NET now: KIND 0 whether a is ABOVE b (1, 0), 1 whether they are JOINED, 2 FAR (NONE).");
        for (int kind = 0; kind < 3; kind++) {
            NameNets x = made();
            for (int a = 0; a < n; a++) {
                for (int b = 0; b < n; b++) {
                    due("ask(" + kind + ", " + a + ", " + b + ")", x.ask(kind, a, b), reply(kind, names[kind][a], names[kind][b]));
                }
            }
        }
    }

    private int rootOf(int p) {
        int q = p;
        for (int steps = 0; steps < n && above[q] != NONE; steps++) {
            q = above[q];
        }
        return q;
    }

    private boolean isParted(int a, int b, int set) {
        if (rootOf(a) != rootOf(b)) {
            return true;
        }
        int between = names[3][a][0] ^ names[3][b][0];
        for (int subset = set; subset > 0; subset = (subset - 1) & set) {
            int sum = 0;
            for (int l = 0; l < lineNames.length; l++) {
                sum ^= (subset >> l & 1) == 1 ? lineNames[l] : 0;
            }
            if (sum == 0 && Integer.bitCount(subset & between) % 2 == 1) {
                return true;
            }
        }
        return false;
    }

    private void parted() {
        Check.sentence("or if some SUBSET of it has NAMES that give 0, put together bit by bit (unlike 1, like 0), and has an odd "
            + "number of LINES between a and b in THE TREE (those in just one of both numbers).");
        NameNets x = made();
        for (int turn = 0; turn < 100; turn++) {
            int a = random.nextInt(n);
            int b = random.nextInt(n);
            int set = 0;
            for (int many = random.nextInt(MOST_FAILING + 1); many > 0 && !lines.isEmpty(); many--) {
                set |= 1 << random.nextInt(lines.size());
            }
            due("parted(" + a + ", " + b + ", " + set + ")", x.parted(a, b, set), isParted(a, b, set) ? 1 : 0);
        }
    }

    private boolean isAbove(int a, int b) {
        return reply(0, names[0][a], names[0][b]) == 1;
    }

    private int step(int a, int b) {
        if (a == b) {
            return b;
        }
        for (int p = 0; p < n && isAbove(a, b); p++) {
            if (above[p] == a && isAbove(p, b)) {
                return p;
            }
        }
        return above[a];
    }

    /** How many LINES a PARCEL goes, step by step; it stays where it is at a ROOT that is not ABOVE where it goes. */
    private int length(int a, int b) {
        int at = a;
        for (int steps = 0; steps <= 2 * n; steps++) {
            if (at == b) {
                return steps;
            }
            at = step(at, b);
            if (at == NONE) {
                return NONE;
            }
        }
        return NONE;
    }

    private void parcels() {
        Check.sentence("A PARCEL goes by NAMES of KIND 0 of THE NET now: at a POST it is there, if that is where it goes; else down "
            + "to that one below it which is ABOVE where it goes, if the POST is; else up.");
        NameNets x = made();
        for (int a = 0; a < n; a++) {
            for (int b = 0; b < n; b++) {
                int length = length(a, b);
                due("goes(" + a + ", " + b + ")", x.goes(a, b), length);
                due("next(" + a + ", " + b + ")", x.next(a, b), length == NONE ? NONE : step(a, b));
            }
        }
    }

    private void stretch() {
        Check.sentence("over all unlike a, b that are joined by some way: how many LINES it goes by how FAR they are; the greatest.");
        int[] due = {0, 1, NONE, NONE};
        for (int a = 0; a < n; a++) {
            for (int b = 0; b < n; b++) {
                int far = reply(2, names[2][a], names[2][b]);
                int length = length(a, b);
                if (a != b && far != NONE && length * due[1] > due[0] * far) {
                    due = new int[] {length, far, a, b};
                }
            }
        }
        NameNets x = made();
        int upper = x.stretch(0);
        int lower = x.stretch(1);
        due("stretch(0) by stretch(1)", upper * due[1], due[0] * lower);
        Check.isTrue(title + upper + " by " + lower + " is in least terms", lower > 0 && divisor(upper, lower) == 1);
        due("stretch(2)", x.stretch(2), due[2]);
        due("stretch(3)", x.stretch(3), due[3]);
    }

    /** The greatest number that divides both. */
    private static int divisor(int a, int b) {
        return b == 0 ? a : divisor(b, a % b);
    }

    private void cuts() {
        Check.sentence("the SET with the fewest LINES that PARTS them if it FAILS (3 at most), of like ones that which has the least "
            + "LINE where they first differ.");
        NameNets x = made();
        for (int turn = 0; turn < 4 && n > 1; turn++) {
            int a = random.nextInt(n);
            int b = (a + 1 + random.nextInt(n - 1)) % n;
            int due = fewest(a, b);
            due("cut(" + a + ", " + b + ")", x.cut(a, b), due);
            int ways = x.ways(a, b);
            Check.isTrue(title + "as many ways as LINES part " + a + " and " + b,
                due == NONE ? ways > 3 : ways == Integer.bitCount(due));
        }
    }

    /** Sets of as many lines by their least line, then the next: so the first that parts is the one. */
    private int fewest(int a, int b) {
        for (int many = 0; many <= 3; many++) {
            int found = fewest(a, b, many, 0, 0);
            if (found != NONE) {
                return found;
            }
        }
        return NONE;
    }

    private int fewest(int a, int b, int many, int first, int set) {
        if (many == 0) {
            return isParted(a, b, set) ? set : NONE;
        }
        for (int l = first; l < lines.size(); l++) {
            int found = fewest(a, b, many - 1, l + 1, set | 1 << l);
            if (found != NONE) {
                return found;
            }
        }
        return NONE;
    }

    private void bits() {
        Check.sentence("w is how many binary figures n less 1 has (1 at least); KIND 0: 2 w; KIND 1, 2: w for each number; "
            + "KIND 3: as many as THE TREE has LINES.");
        NameNets x = made();
        int w = Integer.toBinaryString(n - 1).length();
        for (int kind = 0; kind < 4; kind++) {
            int longest = 0;
            int all = 0;
            int first = 0;
            for (int p = 0; p < n; p++) {
                int own = kind == 3 ? x.count(2) : w * names[kind][p].length;
                all += own;
                first = own > longest ? p : first;
                longest = Math.max(longest, own);
            }
            due("bits(" + kind + ", 0)", x.bits(kind, 0), longest);
            due("bits(" + kind + ", 1)", x.bits(kind, 1), all);
            due("bits(" + kind + ", 2)", x.bits(kind, 2), first);
        }
    }

    /** THE BOOK has the NAMES as they were told; one is FORGED, and the net changes behind it. */
    private void book() {
        Check.sentence("By THE BOOK a question is answered by the NAMES there alone; DAMAGED, if the CHECK of one of both is not right.");
        for (int kind = 0; kind < 3; kind++) {
            NameNets x = made();
            due("learn(" + kind + ")", x.learn(kind), n);
            int p = random.nextInt(n);
            int k = random.nextInt(names[kind][p].length);
            int was = names[kind][p][k];
            int v = random.nextInt(100);
            due("forge(" + kind + ", " + p + ", " + k + ", " + v + ")", x.forge(kind, p, k, v), was);
            due("damaged(" + kind + ")", x.damaged(kind), v == was ? 0 : 1);
            due("stale(" + kind + ")", x.stale(kind), v == was ? 0 : 1 << p);
            x.net(1);
            for (int a = 0; a < n; a++) {
                for (int b = 0; b < n; b++) {
                    boolean wrong = v != was && (a == p || b == p);
                    due("answer(" + kind + ", " + a + ", " + b + ")", x.answer(kind, a, b),
                        wrong ? DAMAGED : reply(kind, names[kind][a], names[kind][b]));
                }
            }
        }
    }
}
