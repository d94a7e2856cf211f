import java.util.List;

/** A state that can be made again and again: the calls that lead there, and what must hold there. */
final class Scene {
    /** The calls that lead to a state. */
    interface Calls {
        void on(NameNets x);
    }

    final String title;
    final int posts;
    /** The ends of its LINES, two by two. */
    final int[] ends;
    /** Of each KIND how many POSTS THE BOOK has; 0: it was not LEARNED. */
    final int[] booked;
    final int bytes;
    final int answers;
    private final Calls calls;

    Scene(String title, int posts, int[] ends, int[] booked, int bytes, int answers, Calls calls) {
        this.title = title;
        this.posts = posts;
        this.ends = ends;
        this.booked = booked;
        this.bytes = bytes;
        this.answers = answers;
        this.calls = calls;
    }

    NameNets made() {
        NameNets x = new NameNets();
        calls.on(x);
        return x;
    }

    int lines() {
        return ends.length / 2;
    }

    boolean joins(int a, int b) {
        for (int i = 0; i < ends.length; i += 2) {
            if (ends[i] == a && ends[i + 1] == b || ends[i] == b && ends[i + 1] == a) {
                return true;
            }
        }
        return false;
    }

    static List<Scene> all() {
        return List.of(fresh(), ordinary(), five(), nearlyFull(), full(), outgrown(), struck());
    }

    private static Scene fresh() {
        return new Scene("a new object", 1, new int[0], new int[] {0, 0, 0}, 0, 0, x -> { });
    }

    /** Two KINDS LEARNED, one of them FORGED; ANSWERS of an earlier text, the FAULT of a later one, and half a text. */
    private static Scene ordinary() {
        int[] ends = {2, 0, 4, 0, 5, 4, 1, 0, 5, 1, 6, 3, 2, 1};
        return new Scene("an ordinary net", 7, ends, new int[] {7, 0, 7}, 5, 2, x -> {
            x.net(7);
            addLines(x, ends);
            x.learn(0);
            x.learn(2);
            x.forge(2, 3, 1, 9);
            x.forge(0, 6, 0, 99);
            addText(x, "far 1 2;next 5 4;");
            x.read();
            addText(x, "far 9 9;");
            x.read();
            addText(x, "far 0");
        });
    }

    private static Scene five() {
        int[] ends = Ends.pairs(5, 10);
        return new Scene("five posts, all joined", 5, ends, new int[] {0, 5, 0}, 193, 1, x -> {
            x.net(5);
            addLines(x, ends);
            x.learn(1);
            addText(x, "parted 0 4 0 1 2 3;");
            x.read();
            addText(x, "joined 3 4 ;".repeat(12) + " ".repeat(49));
        });
    }

    /** One more of all would still have room. */
    private static Scene nearlyFull() {
        int[] ends = Ends.pairs(12, 29);
        return new Scene("a net with room for one line", 12, ends, new int[] {12, 12, 0}, 199, 11, x -> {
            x.net(12);
            addLines(x, ends);
            x.learn(0);
            x.learn(1);
            addText(x, "far 0 1;".repeat(11));
            x.read();
            addText(x, " ".repeat(191) + "far 0 1;");
        });
    }

    private static Scene full() {
        int[] ends = Ends.full();
        return new Scene("a full net", 12, ends, new int[] {12, 12, 12}, 200, 12, x -> {
            x.net(12);
            addLines(x, ends);
            x.learn(0);
            x.learn(1);
            x.learn(2);
            x.forge(1, 11, 0, 0);
            addText(x, "far 0 1;".repeat(12));
            x.read();
            addText(x, "next 10 11;".repeat(12) + " ".repeat(68));
        });
    }

    /** THE BOOK knows more POSTS than THE NET. */
    private static Scene outgrown() {
        return new Scene("a book with more posts than the net", 1, new int[0], new int[] {5, 12, 3}, 0, 0, x -> {
            x.net(12);
            addLines(x, Ends.ring(12));
            x.learn(1);
            x.net(5);
            addLines(x, Ends.star(5, 2));
            x.learn(0);
            x.net(3);
            x.learn(2);
            x.net(1);
        });
    }

    /** All LINES were taken away again, and THE NET has more POSTS than THE BOOK. */
    private static Scene struck() {
        return new Scene("a net whose lines are gone", 8, new int[0], new int[] {6, 6, 6}, 1, 0, x -> {
            x.net(6);
            addLines(x, Ends.ring(6));
            for (int kind = 0; kind < 3; kind++) {
                x.learn(kind);
            }
            for (int l = 5; l >= 0; l--) {
                x.strike(l / 2);
            }
            x.post();
            x.post();
            addText(x, ";");
        });
    }

    private static void addLines(NameNets x, int[] ends) {
        for (int i = 0; i < ends.length; i += 2) {
            x.line(ends[i], ends[i + 1]);
        }
    }

    private static void addText(NameNets x, String text) {
        for (int i = 0; i < text.length(); i += 8) {
            int n = Math.min(8, text.length() - i);
            long bytes = 0;
            for (int k = 0; k < n; k++) {
                bytes = bytes << 8 | text.charAt(i + k);
            }
            x.feed(n, bytes);
        }
    }
}
