import java.util.Random;

/** Runs of calls with a set seed on NameNets and on Plain side by side: each answer must be the same. */
public final class FuzzTest {
    private static final int RUNS = 600;
    /** A script may take some fifty calls more: then an object has had its 512. */
    private static final int CALLS = 460;

    private final Random random;
    private final NameNets x = new NameNets();
    private final Plain y = new Plain();
    private final int run;
    private int calls = 0;

    private FuzzTest(int run) {
        this.run = run;
        random = new Random(run);
    }

    public static void main(String[] args) {
        for (int run = 0; run < RUNS; run++) {
            new FuzzTest(run).play();
        }
        Check.finish();
    }

    private void play() {
        same("net", x.net(1 + run % 12), y.net(1 + run % 12));
        int wanted = random.nextInt(31);
        while (calls < CALLS) {
            if (calls < wanted * 3 / 2) {
                addLine();
            } else if (random.nextInt(12) == 0) {
                change();
            } else if (random.nextInt(6) == 0) {
                script();
            } else {
                look(random.nextInt(24));
            }
        }
    }

    private void same(String call, int got, int want) {
        calls++;
        Check.due("run " + run + ": " + call, got, want);
    }

    /** A number that is most often within its bounds, and else near them or far away. */
    private int near(int low, int high) {
        int kind = random.nextInt(40);
        if (kind == 0) {
            return random.nextBoolean() ? low - 1 : high + 1;
        }
        if (kind == 1) {
            return random.nextInt();
        }
        return high < low ? low : low + random.nextInt(high - low + 1);
    }

    private int post() {
        return near(0, y.count(0) - 1);
    }

    private void addLine() {
        int a = post();
        int b = post();
        same("line(" + a + ", " + b + ")", x.line(a, b), y.line(a, b));
    }

    private void change() {
        int kind = random.nextInt(20);
        if (kind < 8) {
            addLine();
        } else if (kind < 17) {
            int l = near(0, y.count(1) - 1);
            same("strike(" + l + ")", x.strike(l), y.strike(l));
        } else if (kind < 19) {
            same("post()", x.post(), y.post());
        } else {
            int n = near(1, 12);
            same("net(" + n + ")", x.net(n), y.net(n));
        }
    }

    private int lineSet() {
        int set = 0;
        for (int i = random.nextInt(8); i > 0 && y.count(1) > 0; i--) {
            set |= 1 << random.nextInt(y.count(1));
        }
        return random.nextInt(30) == 0 ? random.nextInt() : set;
    }

    private void look(int call) {
        int kind = near(0, 2);
        int a = post();
        int b = post();
        int k = random.nextInt(27) - 3;
        switch (call) {
            case 0: same("count", x.count(k), y.count(k)); break;
            case 1: same("told(" + a + ", " + k % 7 + ")", x.told(a, k % 7), y.told(a, k % 7)); break;
            case 2:
                int l = near(0, y.count(1) - 1);
                same("lines(" + l + ", " + k % 5 + ")", x.lines(l, k % 5), y.lines(l, k % 5));
                break;
            case 3:
            case 4: same("name(" + kind + ", " + a + ", " + k + ")", x.name(kind, a, k), y.name(kind, a, k)); break;
            case 5: same("name(3, " + a + ", " + k + ")", x.name(3, a, k / 4), y.name(3, a, k / 4)); break;
            case 6:
                int any = near(0, 3);
                int what = near(0, 2);
                same("bits(" + any + ", " + what + ")", x.bits(any, what), y.bits(any, what));
                break;
            case 7:
            case 8: same("ask(" + kind + ", " + a + ", " + b + ")", x.ask(kind, a, b), y.ask(kind, a, b)); break;
            case 9:
            case 10:
                int set = lineSet();
                same("parted(" + a + ", " + b + ", " + set + ")", x.parted(a, b, set), y.parted(a, b, set));
                break;
            case 11: if (random.nextInt(3) == 0) same("learn(" + kind + ")", x.learn(kind), y.learn(kind)); break;
            case 12: forge(kind, a, k); break;
            case 13: same("book(" + kind + ", " + a + ", " + k + ")", x.book(kind, a, k), y.book(kind, a, k)); break;
            case 14:
            case 15: same("answer(" + kind + ", " + a + ", " + b + ")", x.answer(kind, a, b), y.answer(kind, a, b)); break;
            case 16: same("stale(" + kind + ")", x.stale(kind), y.stale(kind)); break;
            case 17: same("damaged(" + kind + ")", x.damaged(kind), y.damaged(kind)); break;
            case 18: same("next(" + a + ", " + b + ")", x.next(a, b), y.next(a, b)); break;
            case 19: same("goes(" + a + ", " + b + ")", x.goes(a, b), y.goes(a, b)); break;
            case 20: same("stretch(" + k % 5 + ")", x.stretch(k % 5), y.stretch(k % 5)); break;
            case 21: same("cut(" + a + ", " + b + ")", x.cut(a, b), y.cut(a, b)); break;
            case 22: same("ways(" + a + ", " + b + ")", x.ways(a, b), y.ways(a, b)); break;
            default: smallNets(); break;
        }
    }

    /** Now and then one number is forged and another one of the same name so that the check comes right again. */
    private void forge(int kind, int p, int k) {
        int v = near(0, 99);
        int was = y.forge(kind, p, k, v);
        same("forge(" + kind + ", " + p + ", " + k + ", " + v + ")", x.forge(kind, p, k, v), was);
        if (was < 0) {
            return;
        }
        for (int i = 0; i < y.book(kind, p, -1); i++) {
            int other = y.book(kind, p, i);
            for (int u = 0; u < 20 && i != k; u++) {
                int change = (v - was) * (k + 1) + (u - other) * (i + 1);
                if (change % 101 == 0) {
                    same("forge back", x.forge(kind, p, i, u), y.forge(kind, p, i, u));
                    return;
                }
            }
        }
    }

    private void smallNets() {
        int m = near(1, 5);
        int k = near(1, 5);
        int h = near(0, m < 1 || m > 5 ? 0 : (1 << m * (m - 1) / 2) - 1);
        int g = near(0, k < 1 || k > 5 ? 0 : (1 << k * (k - 1) / 2) - 1);
        int what = near(0, 1);
        same("holds(" + m + ", " + h + ", " + k + ", " + g + ")", x.holds(m, h, k, g), y.holds(m, h, k, g));
        same("universal(" + (k - 1) + ", " + m + ", " + what + ")", x.universal(k - 1, m, what), y.universal(k - 1, m, what));
        same("small()", x.small(), y.small());
    }

    private void script() {
        StringBuilder text = new StringBuilder();
        for (int i = random.nextInt(14); i >= 0; i--) {
            question(text);
        }
        if (random.nextInt(3) == 0 && text.length() > 0) {
            spoil(text);
        }
        for (int i = 0; i < text.length(); i += 8) {
            int n = Math.min(8, text.length() - i);
            long bytes = random.nextInt();
            for (int k = 0; k < n; k++) {
                bytes = bytes << 8 | text.charAt(i + k);
            }
            same("feed", x.feed(n, bytes), y.feed(n, bytes));
        }
        same("count(5)", x.count(5), y.count(5));
        same("read() of " + text, x.read(), y.read());
        same("fault() of " + text, x.fault(), y.fault());
        for (int i = -1; i < 14; i++) {
            same("said(" + i + ")", x.said(i), y.said(i));
        }
        same("count(6)", x.count(6), y.count(6));
    }

    private void question(StringBuilder text) {
        String[] words = {"above", "joined", "far", "parted", "next"};
        int word = random.nextInt(5);
        text.append(words[word]);
        blanks(text, 0);
        text.append(random.nextInt(y.count(0)));
        blanks(text, 1);
        text.append(random.nextInt(y.count(0)));
        for (int i = random.nextInt(word == 3 ? 8 : 20) - 1; i >= 0 && word == 3 && y.count(1) > 0; i--) {
            blanks(text, 1);
            text.append(random.nextInt(y.count(1)));
        }
        blanks(text, 0);
        text.append(';');
        blanks(text, 0);
    }

    private void blanks(StringBuilder text, int least) {
        text.append(" ".repeat(least + (random.nextInt(8) == 0 ? 1 : 0)));
    }

    private void spoil(StringBuilder text) {
        int at = random.nextInt(text.length());
        switch (random.nextInt(5)) {
            case 0: text.setLength(at); break;
            case 1: text.deleteCharAt(at); break;
            case 2: text.insert(at, (char) ('0' + random.nextInt(10))); break;
            case 3: text.setCharAt(at, (char) random.nextInt(256)); break;
            default: text.insert(at, " ;far1".charAt(random.nextInt(6))); break;
        }
    }
}
