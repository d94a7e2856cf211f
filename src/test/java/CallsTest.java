import java.util.function.IntConsumer;

/** 'An object is used for at most 512 calls': the 512th call still answers as the first ones did. */
public final class CallsTest {
    private static final int OUTSIDE = -1002, FULL = -1004, UNKNOWN = -1001;
    private static final int CALLS = 512;

    private CallsTest() {
    }

    public static void main(String[] args) {
        Check.sentence("An object is used for at most 512 calls after it has been made");
        posts();
        linesComeAndGo();
        netsBegin();
        namesAreLearned();
        namesAreForged();
        textIsFed();
        textsAreRead();
        questions();
        refusals();
        Check.finish();
    }

    /** So many calls, numbered from 0 on. */
    private static void each(int calls, IntConsumer call) {
        for (int i = 0; i < calls; i++) {
            call.accept(i);
        }
    }

    private static void posts() {
        NameNets x = new NameNets();
        each(CALLS, i -> Check.due("post() " + i, x.post(), i < 11 ? i + 1 : FULL));
    }

    private static void linesComeAndGo() {
        NameNets x = new NameNets();
        x.net(12);
        each(30, i -> Check.due("line " + i, x.line(Ends.full()[2 * i], Ends.full()[2 * i + 1]), i));
        // the first is taken away and comes behind the others, over and over
        each(CALLS - 32, i -> {
            int l = i / 2 % 30;
            int due = i % 2 == 0 ? x.strike(0) : x.line(Ends.full()[2 * l], Ends.full()[2 * l + 1]);
            Check.due("call " + i, due, 29);
        });
        Check.due("the last call", x.ask(2, 11, 10), 2);
    }

    private static void netsBegin() {
        NameNets x = new NameNets();
        each(CALLS - 1, i -> Check.due("net", x.net(1 + i % 12), 1));
        Check.due("the last call", x.count(0), 1 + (CALLS - 2) % 12);
    }

    private static void namesAreLearned() {
        NameNets x = new NameNets();
        x.net(12);
        x.line(0, 1);
        // LEAVE of 0 is 1 with the LINE and 0 without
        each((CALLS - 4) / 4, i -> {
            Check.due("learn(0)", x.learn(0), i == 0 ? 12 : 1);
            Check.due("strike(0)", x.strike(0), 0);
            Check.due("learn(0)", x.learn(0), 1);
            Check.due("line(0, 1)", x.line(0, 1), 0);
        });
        Check.due("stale(0)", x.stale(0), 1);
        Check.due("the last call", x.damaged(0), 0);
    }

    private static void namesAreForged() {
        NameNets x = new NameNets();
        x.net(12);
        x.learn(1);
        each(CALLS - 3, i -> Check.due("forge " + i, x.forge(1, 11, 0, i % 100), i == 0 ? 11 : (i + 99) % 100));
        Check.due("the last call", x.book(1, 11, 0), (CALLS - 4) % 100);
    }

    private static void textIsFed() {
        NameNets x = new NameNets();
        each(CALLS, i -> Check.due("feed " + i, x.feed(1, ' '), i < 200 ? i + 1 : FULL));
    }

    private static void textsAreRead() {
        NameNets x = new NameNets();
        each((CALLS - 2) / 3, i -> {
            Check.due("feed(8, ..)", x.feed(8, 0x6661722030203020L), 8);
            Check.due("feed(1, ..)", x.feed(1, i % 2 == 0 ? ';' : '?'), 9);
            Check.due("read()", x.read(), i % 2 == 0 ? 1 : -11);
        });
        Check.due("said(0)", x.said(0), 0);
        Check.due("the last call", x.fault(), (CALLS - 2) / 3 % 2 == 0 ? 8 : -1);
    }

    private static void questions() {
        NameNets x = new NameNets();
        x.net(12);
        each(30, i -> Check.due("line " + i, x.line(Ends.full()[2 * i], Ends.full()[2 * i + 1]), i));
        each((CALLS - 31) / 13, i -> {
            Check.due("ask", x.ask(2, 10, 11), 2);
            Check.due("ask", x.ask(1, 10, 11), 0);
            Check.due("ask", x.ask(0, 0, 11), 1);
            Check.due("parted", x.parted(10, 11, 63), 0);
            Check.due("next", x.next(10, 11), 0);
            Check.due("goes", x.goes(10, 11), 2);
            Check.due("stretch", x.stretch(0), 2);
            Check.due("cut", x.cut(0, 11), 1 << 10 | 1 << 20 | 1 << 29);
            Check.due("ways", x.ways(0, 1), 11);
            Check.due("holds", x.holds(5, 1023, 5, 1022), 0);
            Check.due("universal", x.universal(3, 5, 0), 240);
            Check.due("bits", x.bits(3, 0), 11);
            Check.due("count", x.count(2), 11);
        });
    }

    private static void refusals() {
        NameNets x = new NameNets();
        each(CALLS / 2, i -> {
            Check.due("net(13)", x.net(13), OUTSIDE);
            Check.due("strike(0)", x.strike(0), UNKNOWN);
        });
    }
}
