/**
 * 'What is refused changes nothing': in each scene every refusal of every call, from both sides of its bounds, and behind
 * each of them a look at all that can be seen. Beside them the last numbers within the bounds, which are not refused.
 */
public final class RefusalTest {
    private static final int NONE = -1, UNKNOWN = -1001, OUTSIDE = -1002, NOT = -1003, FULL = -1004, DAMAGED = -1005;
    private static final int LEAST = Integer.MIN_VALUE, GREATEST = Integer.MAX_VALUE;

    private final Scene scene;
    private final int[] before;
    private final int[] notPosts;
    private final int[] notLines;
    private final int last;

    private RefusalTest(Scene scene) {
        this.scene = scene;
        before = Look.at(scene, x -> 0);
        notPosts = Check.beyond(0, scene.posts - 1);
        notLines = Check.beyond(0, scene.lines() - 1);
        last = scene.posts - 1;
    }

    public static void main(String[] args) {
        Check.sentence("What is refused changes nothing.");
        for (Scene scene : Scene.all()) {
            RefusalTest test = new RefusalTest(scene);
            test.isAsTold();
            test.ofPosts();
            test.ofLines();
            test.ofCountAndTold();
            test.ofNames();
            test.ofParted();
            test.ofLearnAndStale();
            test.ofForge();
            test.ofBookAndAnswer();
            test.ofParcels();
            test.ofSmallNets();
            test.ofFeed();
            test.ofSaid();
        }
        Check.finish();
    }

    private void refused(String words, int due, Call.Deed deed) {
        String told = scene.title + ": " + words;
        Check.due(told, deed.on(scene.made()), due);
        int[] after = Look.at(scene, deed);
        for (int i = 0; i < after.length; i++) {
            if (after[i] != before[i]) {
                Check.due("behind " + told + ": " + Look.words(i), after[i], before[i]);
                return;
            }
        }
    }

    private void taken(String words, Call.Deed deed) {
        Check.isTrue(scene.title + ": " + words + " is not refused", deed.on(scene.made()) >= NONE);
    }

    /** The scene is what it says, else all below would be of another state. */
    private void isAsTold() {
        NameNets x = scene.made();
        Check.due(scene.title + ": POSTS", x.count(0), scene.posts);
        Check.due(scene.title + ": LINES", x.count(1), scene.lines());
        Check.due(scene.title + ": bytes", x.count(5), scene.bytes);
        Check.due(scene.title + ": ANSWERS", x.count(6), scene.answers);
        for (int kind = 0; kind < 3; kind++) {
            for (int p = 0; p < 13; p++) {
                boolean there = x.book(kind, p, NONE) != UNKNOWN;
                Check.isTrue(scene.title + ": the book has " + p, there == p < scene.booked[kind]);
            }
        }
    }

    private void ofPosts() {
        for (int n : Check.beyond(1, 12)) {
            refused("net(" + n + ")", OUTSIDE, x -> x.net(n));
        }
        taken("net(1)", x -> x.net(1));
        taken("net(12)", x -> x.net(12));
        if (scene.posts == 12) {
            refused("post()", FULL, NameNets::post);
        } else {
            taken("post()", NameNets::post);
        }
    }

    private void ofLines() {
        for (int p : notPosts) {
            refused("line(" + p + ", 0)", UNKNOWN, x -> x.line(p, 0));
            refused("line(" + last + ", " + p + ")", UNKNOWN, x -> x.line(last, p));
            refused("line(" + p + ", " + p + ")", UNKNOWN, x -> x.line(p, p));
        }
        refused("line(0, 0)", OUTSIDE, x -> x.line(0, 0));
        refused("line(" + last + ", " + last + ")", OUTSIDE, x -> x.line(last, last));
        for (int i = 0; i < scene.ends.length; i += 2) {
            int a = scene.ends[i];
            int b = scene.ends[i + 1];
            refused("line(" + a + ", " + b + ")", NOT, x -> x.line(a, b));
            refused("line(" + b + ", " + a + ")", NOT, x -> x.line(b, a));
        }
        for (int a = 0; a < last; a++) {
            if (!scene.joins(a, last)) {
                newLine(a, last);
                newLine(last, a);
            }
        }
        for (int l : notLines) {
            refused("strike(" + l + ")", UNKNOWN, x -> x.strike(l));
        }
        if (scene.lines() > 0) {
            taken("strike(0)", x -> x.strike(0));
            taken("strike of the last", x -> x.strike(scene.lines() - 1));
        }
    }

    private void newLine(int a, int b) {
        String words = "line(" + a + ", " + b + ")";
        if (scene.lines() == 30) {
            refused(words, FULL, x -> x.line(a, b));
        } else {
            taken(words, x -> x.line(a, b));
        }
    }

    private void ofCountAndTold() {
        for (int what : Check.beyond(0, 7)) {
            refused("count(" + what + ")", OUTSIDE, x -> x.count(what));
        }
        for (int what : Check.beyond(0, 5)) {
            refused("told(" + last + ", " + what + ")", OUTSIDE, x -> x.told(last, what));
            for (int p : notPosts) {
                refused("told(" + p + ", " + what + ")", UNKNOWN, x -> x.told(p, what));
            }
        }
        for (int what : Check.beyond(0, 3)) {
            if (scene.lines() > 0) {
                int l = scene.lines() - 1;
                refused("lines(" + l + ", " + what + ")", OUTSIDE, x -> x.lines(l, what));
            }
            for (int l : notLines) {
                refused("lines(" + l + ", " + what + ")", UNKNOWN, x -> x.lines(l, what));
            }
        }
        for (int p : notPosts) {
            refused("told(" + p + ", 0)", UNKNOWN, x -> x.told(p, 0));
        }
        for (int l : notLines) {
            refused("lines(" + l + ", 0)", UNKNOWN, x -> x.lines(l, 0));
        }
    }

    private void ofNames() {
        for (int kind : Check.beyond(0, 3)) {
            for (int k : new int[] {NONE, 0, LEAST, GREATEST}) {
                refused("name(" + kind + ", 0, " + k + ")", OUTSIDE, x -> x.name(kind, 0, k));
            }
            refused("bits(" + kind + ", 0)", OUTSIDE, x -> x.bits(kind, 0));
            refused("bits(" + kind + ", 3)", OUTSIDE, x -> x.bits(kind, 3));
        }
        for (int what : Check.beyond(0, 2)) {
            refused("bits(0, " + what + ")", OUTSIDE, x -> x.bits(0, what));
            refused("bits(3, " + what + ")", OUTSIDE, x -> x.bits(3, what));
        }
        for (int kind : Check.beyond(0, 2)) {
            refused("ask(" + kind + ", 0, " + last + ")", OUTSIDE, x -> x.ask(kind, 0, last));
        }
        for (int p : notPosts) {
            for (int kind : new int[] {0, 1, 2, 3, -1, 4}) {
                refused("name(" + kind + ", " + p + ", 0)", UNKNOWN, x -> x.name(kind, p, 0));
                refused("ask(" + kind + ", " + p + ", 0)", UNKNOWN, x -> x.ask(kind, p, 0));
                refused("ask(" + kind + ", 0, " + p + ")", UNKNOWN, x -> x.ask(kind, 0, p));
            }
        }
    }

    private void ofParted() {
        int many = scene.lines();
        for (int p : notPosts) {
            refused("parted(" + p + ", 0, 0)", UNKNOWN, x -> x.parted(p, 0, 0));
            refused("parted(0, " + p + ", 0)", UNKNOWN, x -> x.parted(0, p, 0));
            refused("parted(" + p + ", 0, -1)", UNKNOWN, x -> x.parted(p, 0, -1));
        }
        for (int l = many; l < 32; l++) {
            int set = 1 << l;
            refused("parted(0, 0, " + set + ")", UNKNOWN, x -> x.parted(0, 0, set));
        }
        refused("parted(0, 0, greatest)", UNKNOWN, x -> x.parted(0, 0, GREATEST));
        refused("parted(0, 0, all)", UNKNOWN, x -> x.parted(0, 0, -1));
        taken("parted(0, 0, 0)", x -> x.parted(0, 0, 0));
        if (many >= 7) {
            int first = 127;
            int behind = 127 << many - 7;
            refused("parted by the first seven", OUTSIDE, x -> x.parted(0, last, first));
            refused("parted by the last seven", OUTSIDE, x -> x.parted(0, last, behind));
            refused("parted by all", OUTSIDE, x -> x.parted(0, last, (1 << many) - 1));
            refused("parted by seven, one is not", UNKNOWN, x -> x.parted(0, last, behind << 1));
            refused("parted by seven, no such post", UNKNOWN, x -> x.parted(0, last + 1, first));
            taken("parted by the first six", x -> x.parted(0, last, 63));
            taken("parted by the last six", x -> x.parted(0, last, 63 << many - 6));
        }
    }

    private void ofLearnAndStale() {
        for (int kind : Check.beyond(0, 2)) {
            refused("learn(" + kind + ")", OUTSIDE, x -> x.learn(kind));
            refused("stale(" + kind + ")", OUTSIDE, x -> x.stale(kind));
            refused("damaged(" + kind + ")", OUTSIDE, x -> x.damaged(kind));
        }
        for (int kind = 0; kind < 3; kind++) {
            int which = kind;
            taken("learn(" + which + ")", x -> x.learn(which));
            if (scene.booked[which] == 0) {
                refused("stale(" + which + ")", NOT, x -> x.stale(which));
                refused("damaged(" + which + ")", NOT, x -> x.damaged(which));
            } else {
                taken("stale(" + which + ")", x -> x.stale(which));
                taken("damaged(" + which + ")", x -> x.damaged(which));
            }
        }
    }

    private void ofForge() {
        for (int kind : Check.beyond(0, 2)) {
            refused("forge(" + kind + ", 0, 0, 0)", OUTSIDE, x -> x.forge(kind, 0, 0, 0));
            refused("forge(" + kind + ", 12, 0, 0)", OUTSIDE, x -> x.forge(kind, 12, 0, 0));
            refused("forge(" + kind + ", 12, -1, 100)", OUTSIDE, x -> x.forge(kind, 12, -1, 100));
        }
        for (int kind = 0; kind < 3; kind++) {
            int which = kind;
            for (int p : Check.beyond(0, scene.booked[which] - 1)) {
                refused("forge(" + which + ", " + p + ", 0, 0)", UNKNOWN, x -> x.forge(which, p, 0, 0));
                refused("forge(" + which + ", " + p + ", -1, 100)", UNKNOWN, x -> x.forge(which, p, -1, 100));
            }
            for (int p = 0; p < scene.booked[which]; p += Math.max(1, scene.booked[which] - 1)) {
                forgeOf(which, p);
            }
        }
    }

    private void forgeOf(int kind, int p) {
        int size = scene.made().book(kind, p, NONE);
        String call = "forge(" + kind + ", " + p + ", ";
        for (int k : Check.beyond(0, size - 1)) {
            refused(call + k + ", 0)", OUTSIDE, x -> x.forge(kind, p, k, 0));
            refused(call + k + ", 100)", OUTSIDE, x -> x.forge(kind, p, k, 100));
        }
        refused(call + "-2, 0)", OUTSIDE, x -> x.forge(kind, p, -2, 0));
        for (int v : Check.beyond(0, 99)) {
            refused(call + "0, " + v + ")", OUTSIDE, x -> x.forge(kind, p, 0, v));
            refused(call + (size - 1) + ", " + v + ")", OUTSIDE, x -> x.forge(kind, p, size - 1, v));
        }
        for (int v : new int[] {0, 99}) {
            taken(call + "0, " + v + ")", x -> x.forge(kind, p, 0, v));
            taken(call + (size - 1) + ", " + v + ")", x -> x.forge(kind, p, size - 1, v));
        }
    }

    private void ofBookAndAnswer() {
        for (int kind : Check.beyond(0, 2)) {
            for (int p : new int[] {0, 12, -1, LEAST, GREATEST}) {
                refused("book(" + kind + ", " + p + ", 0)", OUTSIDE, x -> x.book(kind, p, 0));
                refused("answer(" + kind + ", " + p + ", 0)", OUTSIDE, x -> x.answer(kind, p, 0));
                refused("answer(" + kind + ", 0, " + p + ")", OUTSIDE, x -> x.answer(kind, 0, p));
            }
        }
        for (int kind = 0; kind < 3; kind++) {
            int which = kind;
            for (int p : Check.beyond(0, scene.booked[which] - 1)) {
                for (int k : new int[] {-2, NONE, 0, LEAST, GREATEST}) {
                    refused("book(" + which + ", " + p + ", " + k + ")", UNKNOWN, x -> x.book(which, p, k));
                }
                for (int other = 0; other < Math.max(1, scene.booked[which]); other++) {
                    int q = other;
                    refused("answer(" + which + ", " + p + ", " + q + ")", UNKNOWN, x -> x.answer(which, p, q));
                    refused("answer(" + which + ", " + q + ", " + p + ")", UNKNOWN, x -> x.answer(which, q, p));
                }
                refused("answer(" + which + ", " + p + ", " + p + ")", UNKNOWN, x -> x.answer(which, p, p));
            }
            for (int p = 0; p < scene.booked[which]; p++) {
                damaged(which, p);
            }
        }
    }

    private void damaged(int kind, int p) {
        NameNets made = scene.made();
        if (made.answer(kind, p, p) == DAMAGED) {
            for (int other = 0; other < scene.booked[kind]; other++) {
                int q = other;
                refused("answer(" + kind + ", " + p + ", " + q + ")", DAMAGED, x -> x.answer(kind, p, q));
                refused("answer(" + kind + ", " + q + ", " + p + ")", DAMAGED, x -> x.answer(kind, q, p));
            }
        }
    }

    private void ofParcels() {
        for (int what : Check.beyond(0, 3)) {
            refused("stretch(" + what + ")", OUTSIDE, x -> x.stretch(what));
        }
        for (int p : notPosts) {
            for (int q : new int[] {0, last, p}) {
                refused("next(" + p + ", " + q + ")", UNKNOWN, x -> x.next(p, q));
                refused("next(" + q + ", " + p + ")", UNKNOWN, x -> x.next(q, p));
                refused("goes(" + p + ", " + q + ")", UNKNOWN, x -> x.goes(p, q));
                refused("goes(" + q + ", " + p + ")", UNKNOWN, x -> x.goes(q, p));
                refused("cut(" + p + ", " + q + ")", UNKNOWN, x -> x.cut(p, q));
                refused("cut(" + q + ", " + p + ")", UNKNOWN, x -> x.cut(q, p));
                refused("ways(" + p + ", " + q + ")", UNKNOWN, x -> x.ways(p, q));
                refused("ways(" + q + ", " + p + ")", UNKNOWN, x -> x.ways(q, p));
            }
        }
        for (int post = 0; post < scene.posts; post++) {
            int p = post;
            refused("cut(" + p + ", " + p + ")", NOT, x -> x.cut(p, p));
            refused("ways(" + p + ", " + p + ")", NOT, x -> x.ways(p, p));
        }
    }

    private void ofSmallNets() {
        for (int m : Check.beyond(1, 5)) {
            refused("holds(" + m + ", 0, 1, 0)", OUTSIDE, x -> x.holds(m, 0, 1, 0));
            refused("holds(1, 0, " + m + ", 0)", OUTSIDE, x -> x.holds(1, 0, m, 0));
            refused("universal(1, " + m + ", 0)", OUTSIDE, x -> x.universal(1, m, 0));
        }
        for (int m = 1; m <= 5; m++) {
            int posts = m;
            for (int number : Check.beyond(0, (1 << m * (m - 1) / 2) - 1)) {
                refused("holds(" + m + ", " + number + ", 1, 0)", OUTSIDE, x -> x.holds(posts, number, 1, 0));
                refused("holds(5, 0, " + m + ", " + number + ")", OUTSIDE, x -> x.holds(5, 0, posts, number));
            }
        }
        for (int k : Check.beyond(1, 3)) {
            refused("universal(" + k + ", 5, 0)", OUTSIDE, x -> x.universal(k, 5, 0));
        }
        for (int what : Check.beyond(0, 1)) {
            refused("universal(1, 1, " + what + ")", OUTSIDE, x -> x.universal(1, 1, what));
        }
        if (scene.posts > 5) {
            refused("small()", NOT, NameNets::small);
        } else {
            taken("small()", NameNets::small);
        }
    }

    private void ofFeed() {
        for (long bytes : new long[] {0, -1, Long.MIN_VALUE, Long.MAX_VALUE}) {
            for (int n : Check.beyond(1, 8)) {
                refused("feed(" + n + ", " + bytes + ")", OUTSIDE, x -> x.feed(n, bytes));
            }
            for (int many = 1; many <= 8; many++) {
                int n = many;
                if (scene.bytes + n > 200) {
                    refused("feed(" + n + ", " + bytes + ")", FULL, x -> x.feed(n, bytes));
                } else {
                    taken("feed(" + n + ", " + bytes + ")", x -> x.feed(n, bytes));
                }
            }
        }
    }

    private void ofSaid() {
        for (int i : Check.beyond(0, scene.answers - 1)) {
            refused("said(" + i + ")", UNKNOWN, x -> x.said(i));
        }
        if (scene.answers > 0) {
            taken("said(0)", x -> x.said(0));
            taken("said of the last", x -> x.said(scene.answers - 1));
        }
    }
}
