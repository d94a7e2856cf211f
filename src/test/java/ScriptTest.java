/** Promises 27 to 30: feed, read, fault, said. */
public final class ScriptTest {
    private static final int NONE = -1, UNKNOWN = -1001, OUTSIDE = -1002, FULL = -1004;

    private ScriptTest() {
    }

    public static void main(String[] args) {
        feed();
        feedFull();
        textOnText();
        readAnswers();
        readBlanks();
        faultOne();
        faultTwo();
        faultThree();
        faultFour();
        faultsOrder();
        strangeBytes();
        answersStay();
        readByTheNetNow();
        said();
        Check.finish();
    }

    /** A ring 0-1-2 with a tail 2-3, and 4 apart. */
    private static NameNets sample() {
        return Check.net(5, 0, 1, 1, 2, 2, 0, 2, 3);
    }

    private static void reads(String text, int due, int... said) {
        NameNets x = sample();
        Check.feed(x, text);
        Check.due("read() of " + text, x.read(), due);
        Check.due("fault() of " + text, x.fault(), NONE);
        for (int i = 0; i < said.length; i++) {
            Check.due("said(" + i + ") of " + text, x.said(i), said[i]);
        }
        Check.due("said(" + due + ") of " + text, x.said(due), UNKNOWN);
        Check.due("count(5) once read", x.count(5), 0);
        Check.due("count(6) of " + text, x.count(6), due);
    }

    private static void fails(String text, int number, int at) {
        NameNets x = sample();
        Check.feed(x, text);
        Check.due("read() of " + text, x.read(), -10 - number);
        Check.due("fault() of " + text, x.fault(), at);
        Check.due("count(5) once read", x.count(5), 0);
        Check.due("no ANSWERS of " + text, x.count(6), 0);
        Check.due("the next read() is of no text", x.read(), 0);
        Check.due("fault() is that of the latest", x.fault(), NONE);
    }

    private static void feed() {
        NameNets x = new NameNets();
        Check.due("feed(0, 0)", x.feed(0, 0), OUTSIDE);
        Check.due("feed(9, 0)", x.feed(9, 0), OUTSIDE);
        Check.due("feed(-1, 0)", x.feed(-1, 0), OUTSIDE);
        Check.due("feed(max, 0)", x.feed(Integer.MAX_VALUE, 0), OUTSIDE);
        Check.due("refused: no bytes", x.count(5), 0);
        // "far" with other bytes ahead of it, which are not taken
        Check.due("feed(3, ..)", x.feed(3, 0x7a7a7a7a7a666172L), 3);
        Check.due("feed(8, ..)", x.feed(8, 0x2030203020202020L), 11);
        Check.due("feed(1, ';')", x.feed(1, -256L | ';'), 12);
        Check.due("read()", x.read(), 1);
        Check.due("said(0)", x.said(0), 0);
        for (int n = 1; n <= 8; n++) {
            Check.due("feed(" + n + ", -1)", x.feed(n, -1), n * (n + 1) / 2);
        }
    }

    private static void feedFull() {
        NameNets x = new NameNets();
        for (int i = 1; i <= 24; i++) {
            Check.due("feed", x.feed(8, 0x2020202020202020L), 8 * i);
        }
        Check.due("feed(4, ..)", x.feed(4, 0x66617230L), 196);
        Check.due("feed(5, ..)", x.feed(5, 0), FULL);
        Check.due("refused: nothing of it", x.count(5), 196);
        Check.due("OUTSIDE ahead of FULL", x.feed(9, 0), OUTSIDE);
        Check.due("feed(4, ..)", x.feed(4, 0x2030203bL), 200);
        Check.due("feed(1, ..)", x.feed(1, ' '), FULL);
        Check.due("a text of 200 bytes", x.read(), 1);
        Check.due("said(0)", x.said(0), 0);
        Check.due("there is room again", x.feed(8, 0), 8);
        String blanks = " ".repeat(192);
        fails(blanks + "far 0 1 ", 1, 200);
        fails(blanks + "far 0  1", 1, 200);
        fails(blanks + "  next 0", 1, 200);
        fails(blanks + "    next", 1, 200);
        fails(blanks + " above 9", 3, 199);
        fails(blanks + "       x", 1, 199);
    }

    /** What an earlier text had behind the end of this one is no part of it. */
    private static void textOnText() {
        String[] shorter = {"far 0 1", "far 0 ", "far ", "fa", "far 0 2;fa"};
        for (String text : shorter) {
            NameNets x = sample();
            Check.feed(x, "far 0 1;far 0 2;far 0 3;");
            Check.due("read()", x.read(), 3);
            Check.feed(x, text);
            Check.due("read() of " + text, x.read(), -11);
            int word = text.endsWith("fa") ? text.length() - 2 : text.length();
            Check.due("fault() of " + text, x.fault(), word);
        }
    }

    private static void readAnswers() {
        reads("", 0);
        reads("above 0 3;", 1, 1);
        reads("above 1 3;", 1, 0);
        reads("joined 1 2;joined 2 1;joined 0 3;joined 1 1;", 4, 1, 1, 0, 0);
        reads("far 1 3;far 3 0;far 2 4;far 4 4;", 4, 2, 2, NONE, 0);
        reads("next 1 3;next 0 3;next 3 3;next 3 4;", 4, 0, 2, 3, NONE);
        reads("parted 0 1;parted 0 4;parted 3 3;", 3, 0, 1, 0);
        reads("parted 0 1 0;parted 0 1 0 2;parted 0 1 2 1;parted 3 0 3;", 4, 0, 1, 0, 1);
        reads("parted 0 1 0 0 2 2 0 0;", 1, 1);
        reads("parted 0 3 00 01 02 03 0 1;", 1, 1);
        reads("far 01 03;", 1, 2);
        reads("far 0 0;far 0 1;far 0 2;far 0 3;far 1 0;far 1 1;far 1 2;far 1 3;far 2 0;far 2 1;far 2 2;far 2 3;",
            12, 0, 1, 1, 2, 1, 0, 1, 2, 1, 1, 0, 1);
    }

    private static void readBlanks() {
        reads("    ", 0);
        reads("  far   1   3   ;   ", 1, 2);
        reads("far1 3;above0 3;", 2, 2, 1);
        reads("far 1 3 ; far 0 3 ; ", 2, 2, 2);
    }

    private static void faultOne() {
        fails(";", 1, 0);
        fails("0", 1, 0);
        fails("  A", 1, 2);
        fails("fa 0 1;", 1, 0);
        fails("farr 0 1;", 1, 0);
        fails("car 0 1;", 1, 0);
        fails("fat 0 1;", 1, 0);
        fails("farz 0 1;", 1, 0);
        fails("zfar 0 1;", 1, 0);
        fails("abovefar 0 1;", 1, 0);
        fails("fa r 0 1;", 1, 0);
        fails("far 0 1; x", 1, 9);
        fails("far 0 1;;", 1, 8);
        fails("far 0 1;2", 1, 8);
        fails("far", 1, 3);
        fails("far 0", 1, 5);
        fails("far 0 1", 1, 7);
        fails("far 0 1   ", 1, 10);
        fails("far;", 1, 3);
        fails("far 0;", 1, 5);
        fails("far 0 1 2;", 1, 8);
        fails("far 0 1 x", 1, 8);
        fails("far 0x 1;", 1, 5);
        fails("far above 0 1;", 1, 4);
        fails("far 0 1 above", 1, 8);
        fails("far -1 0;", 1, 4);
        fails("far 0,1;", 1, 5);
        fails("next 0 1 2;", 1, 9);
        fails("joined 0 1 2;", 1, 11);
        fails("above 0 1 2;", 1, 10);
        fails("parted 0;", 1, 8);
        fails("parted 0 1 0 0 0 0 0 0 0;", 1, 23);
        fails("parted 0 1 0 0 0 0 0 0", 1, 22);
    }

    private static void faultTwo() {
        fails("far 000 1;", 2, 4);
        fails("far 0 123;", 2, 6);
        fails("far 0 1234567890123", 2, 6);
        fails("parted 0 1 001;", 2, 11);
        fails("parted 0 1 0 0 0 0 0 000;", 2, 21);
        fails("far 0 100", 2, 6);
    }

    private static void faultThree() {
        fails("far 5 0;", 3, 4);
        fails("far 0 05;", 3, 6);
        fails("far 0 99;", 3, 6);
        fails("parted 0 1 4;", 3, 11);
        fails("parted 0 1 0 1 2 3 0 4;", 3, 21);
        fails("parted 5 1 4;", 3, 7);
        fails("next 0 5", 3, 7);
    }

    private static void faultFour() {
        String twelve = "far 0 1;".repeat(12);
        fails(twelve + "far 0 1;", 4, 96);
        fails(twelve + "  next", 4, 98);
        fails(twelve + "parted 9 9", 4, 96);
        fails(twelve + "fax 0 1;", 1, 96);
        fails(twelve + ";", 1, 96);
        fails(twelve + "1", 1, 96);
        reads(twelve + "  ", 12, 1, 1, 1, 1, 1, 1, 1, 1, 1, 1, 1, 1);
    }

    private static void faultsOrder() {
        // the first byte that has one
        fails("far 9 999 ?", 3, 4);
        fails("far 999 9 ?", 2, 4);
        fails("far ? 9 999", 1, 4);
        // of one byte the least
        fails("far 0 1 999;", 1, 8);
        fails("far 0 1 99;", 1, 8);
        fails("parted 0 1 0 0 0 0 0 0 999;", 1, 23);
    }

    private static void strangeBytes() {
        for (int sign = 0; sign < 256; sign++) {
            if (sign != ' ') {
                fails((char) sign + "", 1, 0);
            }
            boolean figure = sign >= '0' && sign <= '9';
            if (sign != ' ' && !figure) {
                fails("far 0" + (char) sign + " 1;", 1, 5);
            }
            if (sign != ' ' && sign != ';' && !figure) {
                fails("far 0 1" + (char) sign, 1, 7);
            }
        }
    }

    private static void answersStay() {
        NameNets x = sample();
        Check.feed(x, "far 1 3;far 0 0;");
        Check.due("read()", x.read(), 2);
        Check.feed(x, "far 0 0;far 0 1;far 0 1;?");
        Check.due("read() with a fault", x.read(), -11);
        Check.due("fault()", x.fault(), 24);
        Check.due("ANSWERS stay", x.count(6), 2);
        Check.due("ANSWERS stay", x.said(0), 2);
        Check.due("ANSWERS stay", x.said(1), 0);
        Check.due("ANSWERS stay", x.said(2), UNKNOWN);
        Check.feed(x, "next 1 4;");
        Check.due("fault() stays until read()", x.fault(), 24);
        Check.due("read()", x.read(), 1);
        Check.due("fault()", x.fault(), NONE);
        Check.due("those of an earlier one go", x.said(1), UNKNOWN);
        Check.due("said(0) is NONE as told", x.said(0), NONE);
        Check.due("read() of no text", x.read(), 0);
        Check.due("those of an earlier one go", x.count(6), 0);
    }

    private static void readByTheNetNow() {
        NameNets x = sample();
        Check.feed(x, "far 0 3;parted 0 3 3;");
        x.strike(2);
        Check.due("line 3 is no more when it is read", x.read(), -13);
        Check.due("fault()", x.fault(), 19);
        Check.feed(x, "far 0 3;parted 0 3 2;");
        Check.due("read()", x.read(), 2);
        Check.due("far, without line 2", x.said(0), 3);
        Check.due("parted, the tail is line 2", x.said(1), 1);
        x.net(1);
        Check.due("what was said stays", x.said(0), 3);
        Check.feed(x, "above 0 0;");
        x.learn(0);
        x.forge(0, 0, 0, 9);
        Check.due("read()", x.read(), 1);
        Check.due("THE BOOK has no say", x.said(0), 1);
    }

    private static void said() {
        NameNets x = sample();
        Check.due("said(0)", x.said(0), UNKNOWN);
        Check.feed(x, "far 1 3;");
        Check.due("not read yet", x.said(0), UNKNOWN);
        x.read();
        Check.due("said(0)", x.said(0), 2);
        for (int i : new int[] {-1, 1, 12, Integer.MIN_VALUE, Integer.MAX_VALUE}) {
            Check.due("said(" + i + ")", x.said(i), UNKNOWN);
        }
    }
}
