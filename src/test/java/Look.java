import java.util.ArrayList;
import java.util.List;

/**
 * All that can be seen of a state. As an object is meant for 512 calls, the state is made anew for each part of the look.
 */
final class Look {
    private static final int PART = 400;
    private static final List<Call> QUESTIONS = questions();
    private static final List<Call> DEEDS = deeds();

    private Look() {
    }

    /** What all calls answer in a scene, behind one call more. */
    static int[] at(Scene scene, Call.Deed ahead) {
        int[] seen = new int[QUESTIONS.size() + DEEDS.size()];
        for (int first = 0; first < QUESTIONS.size(); first += PART) {
            NameNets x = scene.made();
            ahead.on(x);
            for (int i = first; i < first + PART && i < QUESTIONS.size(); i++) {
                seen[i] = QUESTIONS.get(i).deed.on(x);
            }
        }
        NameNets x = scene.made();
        ahead.on(x);
        for (int i = 0; i < DEEDS.size(); i++) {
            seen[QUESTIONS.size() + i] = DEEDS.get(i).deed.on(x);
        }
        return seen;
    }

    static String words(int i) {
        return i < QUESTIONS.size() ? QUESTIONS.get(i).words : "later: " + DEEDS.get(i - QUESTIONS.size()).words;
    }

    private static void put(List<Call> calls, String words, Call.Deed deed) {
        calls.add(new Call(words, deed));
    }

    private static List<Call> questions() {
        List<Call> calls = new ArrayList<>();
        for (int what = 0; what < 8; what++) {
            int w = what;
            put(calls, "count(" + w + ")", x -> x.count(w));
        }
        for (int what = 0; what < 4; what++) {
            int w = what;
            put(calls, "stretch(" + w + ")", x -> x.stretch(w));
        }
        for (int i = -1; i < 13; i++) {
            int k = i;
            put(calls, "said(" + k + ")", x -> x.said(k));
        }
        put(calls, "fault()", NameNets::fault);
        put(calls, "small()", NameNets::small);
        aboutPosts(calls);
        aboutLines(calls);
        aboutKinds(calls);
        aboutPairs(calls);
        return calls;
    }

    private static void aboutPosts(List<Call> calls) {
        for (int post = 0; post < 13; post++) {
            int p = post;
            for (int what = 0; what < 6; what++) {
                int w = what;
                put(calls, "told(" + p + ", " + w + ")", x -> x.told(p, w));
            }
        }
    }

    private static void aboutLines(List<Call> calls) {
        for (int line = 0; line < 31; line++) {
            int l = line;
            for (int what = 0; what < 4; what++) {
                int w = what;
                put(calls, "lines(" + l + ", " + w + ")", x -> x.lines(l, w));
            }
        }
    }

    private static void aboutKinds(List<Call> calls) {
        for (int kind = 0; kind < 4; kind++) {
            int which = kind;
            for (int what = 0; what < 3; what++) {
                int w = what;
                put(calls, "bits(" + which + ", " + w + ")", x -> x.bits(which, w));
            }
            put(calls, "stale(" + which + ")", x -> x.stale(which));
            put(calls, "damaged(" + which + ")", x -> x.damaged(which));
            for (int post = 0; post < 12; post++) {
                int p = post;
                for (int number = -2; number < 25; number++) {
                    int k = number;
                    put(calls, "name(" + which + ", " + p + ", " + k + ")", x -> x.name(which, p, k));
                    put(calls, "book(" + which + ", " + p + ", " + k + ")", x -> x.book(which, p, k));
                }
            }
        }
    }

    private static void aboutPairs(List<Call> calls) {
        for (int pair = 0; pair < 144; pair++) {
            int a = pair / 12;
            int b = pair % 12;
            String both = a + ", " + b + ")";
            for (int kind = 0; kind < 3; kind++) {
                int which = kind;
                put(calls, "ask(" + which + ", " + both, x -> x.ask(which, a, b));
                put(calls, "answer(" + which + ", " + both, x -> x.answer(which, a, b));
            }
            put(calls, "parted(0, " + both, x -> x.parted(a, b, 0));
            put(calls, "parted(1, " + both, x -> x.parted(a, b, 1));
            put(calls, "parted(63, " + both, x -> x.parted(a, b, 63));
            put(calls, "next(" + both, x -> x.next(a, b));
            put(calls, "goes(" + both, x -> x.goes(a, b));
            put(calls, "cut(" + both, x -> x.cut(a, b));
            put(calls, "ways(" + both, x -> x.ways(a, b));
        }
    }

    /** What later calls that change something make of the state: the text, for one, is seen by reading it alone. */
    private static List<Call> deeds() {
        List<Call> calls = new ArrayList<>();
        reading(calls);
        for (int kind = 0; kind < 3; kind++) {
            int which = kind;
            put(calls, "forge(" + which + ", 0, 0, 98)", x -> x.forge(which, 0, 0, 98));
            put(calls, "learn(" + which + ")", x -> x.learn(which));
            put(calls, "stale(" + which + ")", x -> x.stale(which));
        }
        put(calls, "post()", NameNets::post);
        put(calls, "line(1, 0)", x -> x.line(1, 0));
        put(calls, "line(11, 10)", x -> x.line(11, 10));
        put(calls, "strike(0)", x -> x.strike(0));
        put(calls, "line(11, 10) once there is room", x -> x.line(11, 10));
        put(calls, "strike(28)", x -> x.strike(28));
        put(calls, "feed(1, ';')", x -> x.feed(1, ';'));
        reading(calls);
        put(calls, "net(2)", x -> x.net(2));
        put(calls, "count(1)", x -> x.count(1));
        put(calls, "line(0, 1)", x -> x.line(0, 1));
        return calls;
    }

    private static void reading(List<Call> calls) {
        put(calls, "read()", NameNets::read);
        put(calls, "fault()", NameNets::fault);
        put(calls, "count(5)", x -> x.count(5));
        for (int i = 0; i < 13; i++) {
            int k = i;
            put(calls, "said(" + k + ")", x -> x.said(k));
        }
    }
}
