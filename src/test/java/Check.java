import java.io.IOException;
import java.nio.file.Files;
import java.nio.file.Path;

/** Counts the answers that are not as due; each test ends by finish(). */
final class Check {
    private static final Path DOCUMENT = Path.of("../shared/DOC.md");
    private static int wrong = 0;
    private static int looked = 0;
    private static String sentence = "";
    private static String document = null;

    private Check() {
    }

    static void due(String call, long got, long want) {
        looked++;
        if (got != want) {
            wrong++;
            System.out.println(sentence + call + " answered " + got + ", due is " + want);
        }
    }

    static void isTrue(String what, boolean holds) {
        due(what, holds ? 1 : 0, 1);
    }

    /** The words of the document that are tested from here on; they must stand there letter by letter. */
    static void sentence(String words) {
        sentence = "";
        isTrue("the document says: " + words, document().contains(words));
        sentence = "[" + words + "] ";
    }

    private static String document() {
        if (document == null) {
            try {
                document = Files.readString(DOCUMENT);
            } catch (IOException e) {
                throw new IllegalStateException("no document at " + DOCUMENT, e);
            }
        }
        return document;
    }

    static void finish() {
        System.out.println(wrong == 0 ? looked + " answers, all as due" : wrong + " of " + looked + " answers are not as due");
        if (wrong != 0) {
            System.exit(1);
        }
    }

    /** Numbers just beyond both bounds, and those farthest away from them. */
    static int[] beyond(int low, int high) {
        return new int[] {low - 1, high + 1, Integer.MIN_VALUE, Integer.MAX_VALUE};
    }

    /** A net of n posts with lines told by pairs of ends. */
    static NameNets net(int n, int... ends) {
        NameNets x = new NameNets();
        due("net(" + n + ")", x.net(n), 1);
        addLines(x, ends);
        return x;
    }

    static void addLines(NameNets x, int... ends) {
        for (int i = 0; i + 1 < ends.length; i += 2) {
            due("line(" + ends[i] + ", " + ends[i + 1] + ")", x.line(ends[i], ends[i + 1]), x.count(1) - 1);
        }
    }

    /** Feeds a text, eight bytes at a time. */
    static void feed(NameNets x, String text) {
        int before = x.count(5);
        for (int i = 0; i < text.length(); i += 8) {
            int n = Math.min(8, text.length() - i);
            long bytes = 0;
            for (int k = 0; k < n; k++) {
                bytes = bytes << 8 | text.charAt(i + k);
            }
            due("feed of " + text.substring(i, i + n), x.feed(n, bytes), before + i + n);
        }
    }
}
