/** The bounds of SCRIPTS, sentence by sentence: promises 27 to 30 and what 'Terms' say of them. */
public final class ScriptEdgeTest {
    private static final int NONE = -1, UNKNOWN = -1001, OUTSIDE = -1002, FULL = -1004;
    private static final String[] WORDS = {"above", "joined", "far", "parted", "next"};

    private ScriptEdgeTest() {
    }

    public static void main(String[] args) {
        feedOneToEight();
        feedHighestFirst();
        feedLeastAndGreatest();
        feedUpTo200();
        feedOutsideAheadOfFull();
        textIsEmptyThen();
        emptyText();
        twelveQuestions();
        thirteenthQuestion();
        upToSixLines();
        linesOfOneQuestionAlone();
        noOtherLines();
        oneOrTwoFigures();
        postsThatThereAre();
        linesThatThereAre();
        wordsSideBySide();
        wordThatCannotStand();
        blanksAnywhere();
        blanksNotWithin();
        blankBetweenNumbers();
        otherSigns();
        endOfText();
        firstByteThatHasOne();
        ofTheseTheLeast();
        answersAsTold();
        answersByTheNetNow();
        answersGoOrStay();
        faultOfTheLatest();
        saidBounds();
        Check.finish();
    }

    /** Twelve POSTS and thirty LINES; 0 is joined with all. */
    private static NameNets full() {
        return Check.net(12, Ends.full());
    }

    private static NameNets reads(NameNets x, String text, int due) {
        Check.feed(x, text);
        Check.due("read() of " + text, x.read(), due);
        Check.due("fault() of " + text, x.fault(), NONE);
        Check.due("count(6) of " + text, x.count(6), due);
        return x;
    }

    private static void fails(NameNets x, String text, int number, int at) {
        int answers = x.count(6);
        Check.feed(x, text);
        Check.due("read() of " + text, x.read(), -10 - number);
        Check.due("fault() of " + text, x.fault(), at);
        Check.due("bytes once read", x.count(5), 0);
        Check.due("ANSWERS stay at " + text, x.count(6), answers);
    }

    private static void feedOneToEight() {
        Check.sentence("Up to eight bytes (n 1 .. 8) of a long, the highest of these first, come behind THE TEXT: how many it has.");
        NameNets x = new NameNets();
        int bytes = 0;
        for (int n = -2; n <= 11; n++) {
            boolean within = n >= 1 && n <= 8;
            bytes += within ? n : 0;
            Check.due("feed(" + n + ", 0)", x.feed(n, 0), within ? bytes : OUTSIDE);
            Check.due("bytes", x.count(5), bytes);
        }
        for (int n : new int[] {Integer.MIN_VALUE, Integer.MAX_VALUE}) {
            Check.due("feed(" + n + ", 0)", x.feed(n, 0), OUTSIDE);
            Check.due("bytes", x.count(5), 36);
        }
    }

    private static void feedHighestFirst() {
        Check.sentence("the highest of these first, come behind THE TEXT");
        String text = "far 0 0;";
        for (int n = 1; n <= 8; n++) {
            NameNets x = new NameNets();
            for (int i = 0; i < 8; i += n) {
                int many = Math.min(n, 8 - i);
                // what stands above those bytes in the long is not taken
                long bytes = 0x7f80ff00fe01a5L;
                for (int k = 0; k < many; k++) {
                    bytes = bytes << 8 | text.charAt(i + k);
                }
                Check.due("feed(" + many + ", ..)", x.feed(many, bytes), i + many);
            }
            Check.due("read()", x.read(), 1);
            Check.due("said(0)", x.said(0), 0);
        }
    }

    private static void feedLeastAndGreatest() {
        Check.sentence("`int feed(int n, long bytes)`");
        long[] ends = {Long.MIN_VALUE, Long.MAX_VALUE, -1, 0, 1, Long.MIN_VALUE + 1};
        for (long bytes : ends) {
            for (int n = 1; n <= 8; n++) {
                NameNets x = new NameNets();
                Check.feed(x, "far 0 0;");
                Check.due("feed(" + n + ", " + bytes + ")", x.feed(n, bytes), 8 + n);
                Check.due("read() of " + bytes, x.read(), -11);
                Check.due("fault() of " + bytes, x.fault(), 8);
            }
        }
        // a text that a long below 0 ends: the highest byte is taken at n = 8 alone
        NameNets x = new NameNets();
        Check.due("feed(8, ..)", x.feed(8, 0x8061722030203020L), 8);
        Check.due("read()", x.read(), -11);
        Check.due("fault()", x.fault(), 0);
        Check.due("feed(1, 'f')", x.feed(1, 'f'), 1);
        Check.due("feed(7, ..)", x.feed(7, 0x806172203020303bL), 8);
        Check.due("read()", x.read(), 1);
    }

    private static void feedUpTo200() {
        Check.sentence("A SCRIPT is a text (200 bytes at most) of questions");
        for (int n = 1; n <= 8; n++) {
            NameNets x = new NameNets();
            int bytes = 0;
            while (bytes + n <= 200) {
                bytes += n;
                Check.due("feed(" + n + ", ..)", x.feed(n, 0x2020202020202020L), bytes);
            }
            Check.due("n beyond it", x.feed(n, 0x2020202020202020L), FULL);
            Check.due("nothing of it comes", x.count(5), bytes);
            for (int more = 8; more > 200 - bytes; more--) {
                Check.due("feed(" + more + ", ..) at " + bytes, x.feed(more, 0), FULL);
            }
            if (bytes < 200) {
                Check.due("just up to 200", x.feed(200 - bytes, 0x2020202020202020L), 200);
            }
            Check.due("one more", x.feed(1, 0), FULL);
            Check.due("bytes", x.count(5), 200);
            Check.due("200 blanks", x.read(), 0);
            Check.due("fault()", x.fault(), NONE);
            Check.due("there is room again", x.feed(8, 0), 8);
        }
        String blanks = " ".repeat(192);
        Check.due("a question at the end", reads(new NameNets(), blanks + "far 0 0;", 1).said(0), 0);
        fails(new NameNets(), blanks + "far 0 0 ", 1, 200);
        fails(new NameNets(), blanks + "       ;", 1, 199);
    }

    private static void feedOutsideAheadOfFull() {
        Check.sentence("come behind THE TEXT: how many it has. OUTSIDE, FULL.");
        NameNets x = new NameNets();
        Check.feed(x, " ".repeat(200));
        for (int n : Check.beyond(1, 8)) {
            Check.due("feed(" + n + ", 0)", x.feed(n, 0), OUTSIDE);
        }
        for (int n = 1; n <= 8; n++) {
            Check.due("feed(" + n + ", 0)", x.feed(n, 0), FULL);
        }
        Check.due("refused: THE TEXT is as it was", x.read(), 0);
    }

    private static void textIsEmptyThen() {
        Check.sentence("THE TEXT (it is empty then) is read as a SCRIPT");
        NameNets x = full();
        Check.feed(x, "far 0 1;far 1 2;");
        Check.due("read()", x.read(), 2);
        Check.due("bytes", x.count(5), 0);
        Check.due("read() again", x.read(), 0);
        Check.feed(x, "far 0 1;?");
        Check.due("read() with a FAULT", x.read(), -11);
        Check.due("bytes, with a FAULT, too", x.count(5), 0);
        Check.feed(x, "far 0 ");
        Check.due("what was there before is no part of it", x.read(), -11);
        Check.due("the end of the new one", x.fault(), 6);
    }

    private static void emptyText() {
        Check.sentence("how many ANSWERS there are then (those of an earlier one go)");
        NameNets x = full();
        reads(x, "far 0 1;", 1);
        reads(x, "", 0);
        Check.due("those of an earlier one go", x.said(0), UNKNOWN);
        reads(x, "far 0 1;", 1);
        reads(x, " ", 0);
        Check.due("those of an earlier one go", x.said(0), UNKNOWN);
    }

    private static void twelveQuestions() {
        Check.sentence("4 a thirteenth question (at its first letter).");
        for (int many = 1; many <= 12; many++) {
            NameNets x = reads(full(), "next 0 9;".repeat(many), many);
            for (int i = 0; i < many; i++) {
                Check.due("said(" + i + ") of " + many, x.said(i), 9);
            }
            Check.due("said(" + many + ")", x.said(many), UNKNOWN);
        }
        reads(full(), "far 0 1;".repeat(12) + " ".repeat(104), 12);
    }

    private static void thirteenthQuestion() {
        Check.sentence("4 a thirteenth question (at its first letter).");
        String twelve = "far 0 1;".repeat(12);
        for (String word : WORDS) {
            fails(full(), twelve + word + " 0 1;", 4, 96);
            fails(full(), twelve + "   " + word, 4, 99);
            fails(full(), twelve + word + " 99 999 ?", 4, 96);
        }
        fails(full(), twelve + "nexd 0 1;", 1, 96);
        fails(full(), twelve + "nextfar 0 1;", 1, 96);
        fails(full(), twelve + "7", 1, 96);
        fails(full(), twelve + " ;", 1, 97);
        fails(full(), twelve + "far 0 1;".repeat(13), 4, 96);
    }

    private static void upToSixLines() {
        Check.sentence("(behind both POSTS up to 6 LINES that FAIL)");
        // seven POSTS, all joined: LINES 0 .. 5 are those of 0
        String text = "parted 0 6";
        for (int many = 0; many <= 6; many++) {
            NameNets x = reads(Check.net(7, Ends.pairs(7, 21)), text + ";", 1);
            Check.due("said(0) of " + text, x.said(0), many == 6 ? 1 : 0);
            text += " " + many;
        }
        fails(Check.net(7, Ends.pairs(7, 21)), text + ";", 1, 23);
        fails(Check.net(7, Ends.pairs(7, 21)), text, 1, 23);
        NameNets last = reads(full(), "parted 0 11 10 20 29;parted 0 11 10 20;parted 0 11 29 20 10 24 25 26;", 3);
        Check.due("the three LINES of 11", last.said(0), 1);
        Check.due("two of them", last.said(1), 0);
        Check.due("the three and others", last.said(2), 1);
    }

    private static void linesOfOneQuestionAlone() {
        Check.sentence("(behind both POSTS up to 6 LINES that FAIL)");
        NameNets x = Check.net(7, Ends.pairs(7, 21));
        reads(x, "parted 0 6 0 1 2 3 4 5;parted 0 6;parted 0 6 5;", 3);
        int[] due = {1, 0, 0};
        for (int i = 0; i < 3; i++) {
            Check.due("said(" + i + ")", x.said(i), due[i]);
        }
        Check.due("not those of an earlier text", reads(x, "parted 0 6;", 1).said(0), 0);
        fails(x, "parted 0 6 0 1 2 3 4 5 6;", 1, 23);
        Check.due("nor those of one with a FAULT", reads(x, "parted 0 6;", 1).said(0), 0);
    }

    private static void noOtherLines() {
        Check.sentence("'next' P P ';'");
        for (String word : WORDS) {
            int size = word.length();
            reads(full(), word + " 0 1;", 1);
            fails(full(), word + " 0;", 1, size + 2);
            fails(full(), word + ";", 1, size);
            if (word.equals("parted")) {
                reads(full(), word + " 0 1 2;", 1);
            } else {
                fails(full(), word + " 0 1 2;", 1, size + 5);
            }
        }
    }

    private static void oneOrTwoFigures() {
        Check.sentence("P is a NUMBER of one or two figures");
        Check.due("one figure", reads(full(), "next 0 9;", 1).said(0), 9);
        Check.due("two figures", reads(full(), "next 0 11;", 1).said(0), 11);
        Check.due("two figures, the first 0", reads(full(), "next 00 09;", 1).said(0), 9);
        Check.due("of LINES, too", reads(full(), "parted 0 11 10 20 29;", 1).said(0), 1);
        Check.sentence("2 a NUMBER of three figures or more.");
        fails(full(), "next 000 9;", 2, 5);
        fails(full(), "next 0 009;", 2, 7);
        fails(full(), "next 0 100", 2, 7);
        fails(full(), "parted 0 1 000;", 2, 11);
        fails(full(), "parted 0 1 0 0 0 0 0 005;", 2, 21);
        fails(full(), "next 0 " + "1".repeat(193), 2, 7);
        fails(full(), "next 4294967296 1;", 2, 5);
        fails(full(), "next 0 18446744073709551616;", 2, 7);
    }

    private static void postsThatThereAre() {
        Check.sentence("3 a POST or LINE that there is not (at its first figure).");
        for (int n = 1; n <= 12; n++) {
            for (String word : WORDS) {
                int size = word.length();
                reads(Check.net(n), word + " " + (n - 1) + " 0;", 1);
                reads(Check.net(n), word + " 0 " + (n - 1) + ";", 1);
                fails(Check.net(n), word + " " + n + " 0;", 3, size + 1);
                fails(Check.net(n), word + " 0 " + n + ";", 3, size + 3);
                fails(Check.net(n), word + "  0  99", 3, size + 5);
            }
        }
    }

    private static void linesThatThereAre() {
        Check.sentence("3 a POST or LINE that there is not (at its first figure).");
        for (int many = 1; many <= 30; many++) {
            NameNets x = Check.net(12, Ends.pairs(12, many));
            reads(x, "parted 0 1 " + (many - 1) + ";", 1);
            fails(x, "parted 0 1 " + many + ";", 3, 11);
            fails(x, "parted 0 1 0 0 0 0 0 " + many, 3, 21);
        }
        fails(Check.net(12), "parted 0 1 0;", 3, 11);
        fails(full(), "parted 0 1 99;", 3, 11);
    }

    private static void wordsSideBySide() {
        Check.sentence("words are letters a .. z side by side.");
        for (String word : WORDS) {
            reads(full(), word + "0 1;", 1);
            reads(full(), word + "00 01;" + word + "2 3 ;", 2);
            fails(full(), word + "a 0 1;", 1, 0);
            fails(full(), word + "z 0 1;", 1, 0);
            fails(full(), "a" + word + " 0 1;", 1, 0);
            fails(full(), word.substring(1) + " 0 1;", 1, 0);
            fails(full(), word.substring(0, word.length() - 1) + " 0 1;", 1, 0);
            fails(full(), word + word + " 0 1;", 1, 0);
            // signs beside a .. z are no letters: the word ends ahead of them
            for (char sign : new char[] {'`', '{', 'A', 'Z', '@', '['}) {
                fails(full(), word + sign + " 0 1;", 1, word.length());
                fails(full(), sign + word + " 0 1;", 1, 0);
            }
        }
    }

    private static void wordThatCannotStand() {
        Check.sentence("1 it cannot stand there (a word that cannot: at its first letter).");
        for (String word : WORDS) {
            fails(full(), "far " + word + " 0 1;", 1, 4);
            fails(full(), "far 0 " + word + ";", 1, 6);
            fails(full(), "far 0 1 " + word + " 0 1;", 1, 8);
            fails(full(), "far 0 1" + word + " 0 1;", 1, 7);
            fails(full(), "parted 0 1 2 " + word, 1, 13);
        }
        fails(full(), "far 0 1;xyz", 1, 8);
        fails(full(), "x", 1, 0);
        fails(full(), "far 0 1;f", 1, 8);
        fails(full(), " ".repeat(199) + "f", 1, 199);
        fails(full(), "f".repeat(200), 1, 0);
    }

    private static void blanksAnywhere() {
        Check.sentence("Blanks (32) may stand anywhere but within words and NUMBERS");
        reads(full(), "  far 0 1;", 1);
        reads(full(), "far   0 1;", 1);
        reads(full(), "far 0    1;", 1);
        reads(full(), "far 0 1   ;", 1);
        reads(full(), "far 0 1;   ", 1);
        reads(full(), "far 0 1;   far 0 1;", 2);
        reads(full(), "far0 1;far0 1;", 2);
        reads(full(), "parted0 1 2  3   4 ;", 1);
    }

    private static void blanksNotWithin() {
        Check.sentence("Blanks (32) may stand anywhere but within words and NUMBERS");
        for (String word : WORDS) {
            for (int cut = 1; cut < word.length(); cut++) {
                fails(full(), word.substring(0, cut) + " " + word.substring(cut) + " 0 1;", 1, 0);
            }
        }
        fails(full(), "far 1 1 0;", 1, 8);
        fails(full(), "far 0 1 1;", 1, 8);
    }

    private static void blankBetweenNumbers() {
        Check.sentence("between two NUMBERS there is one at least.");
        fails(full(), "far 01;", 1, 6);
        fails(full(), "far 0;1;", 1, 5);
        fails(full(), "far 0,1;", 1, 5);
        fails(full(), "parted 0 12;", 3, 9);
        NameNets x = reads(full(), "parted 0 1 2;parted 0 11;", 2);
        Check.due("LINE 2 alone", x.said(0), 0);
        Check.due("two NUMBERS, the second of two figures", x.said(1), 0);
    }

    private static void otherSigns() {
        Check.sentence("Blanks (32) may stand anywhere");
        for (int sign = 0; sign < 256; sign++) {
            boolean figure = sign >= '0' && sign <= '9';
            boolean letter = sign >= 'a' && sign <= 'z';
            String it = String.valueOf((char) sign);
            if (sign != ' ') {
                fails(full(), "far 0 1;" + it, 1, 8);
                fails(full(), it, 1, 0);
            }
            if (sign != ' ' && !figure) {
                fails(full(), "far " + it + "0 1;", 1, 4);
                fails(full(), "far 0 " + it + "1;", 1, 6);
                fails(full(), "far" + it + " 0 1;", 1, letter ? 0 : 3);
                fails(full(), "far 0" + it + "1;", 1, 5);
            }
            if (sign != ' ' && sign != ';') {
                fails(full(), "far 0 1 " + it + ";", 1, 8);
            }
        }
    }

    private static void endOfText() {
        Check.sentence("(the end at the text's length)");
        String[] halves = {"far", "far ", "far 0", "far 0 ", "far 0 1", "far 0 11", "far 0 1  ", "parted 0 1 2",
            "parted 0 1 2 ", "parted 0 1 2 3 4 5 6 7", "next 0 1;far 0 1", "next 0 1;far"};
        for (String half : halves) {
            fails(full(), half, 1, half.length());
            String long200 = " ".repeat(200 - half.length()) + half;
            fails(full(), long200, 1, 200);
        }
        // a longer text ahead of it leaves nothing behind its end
        NameNets x = reads(full(), "far 0 1;".repeat(12), 12);
        for (String half : halves) {
            fails(x, half, 1, half.length());
        }
    }

    private static void firstByteThatHasOne() {
        Check.sentence("FAULTS, at the first byte that has one");
        fails(full(), "far 12 111 ?", 3, 4);
        fails(full(), "far 111 12 ?", 2, 4);
        fails(full(), "far ? 12 111", 1, 4);
        fails(full(), "far 0 12 ?", 3, 6);
        fails(full(), "far 0 111?", 2, 6);
        fails(full(), "far 12", 3, 4);
        fails(full(), "far 12?", 3, 4);
        fails(full(), "far 111?", 2, 4);
        fails(full(), "far 0 12", 3, 6);
        fails(full(), "far 0 1;far 12 0;fax", 3, 12);
        fails(full(), "far 0 1;".repeat(11) + "far 0 12;far 0 1;", 3, 94);
        fails(full(), "far 0 1;".repeat(11) + "far 0 1 far 0 1;", 1, 96);
    }

    private static void ofTheseTheLeast() {
        Check.sentence("of these the least");
        // a NUMBER that cannot stand there, of three figures, that there is not
        fails(full(), "far 0 1 222;", 1, 8);
        fails(full(), "far 0 1 22;", 1, 8);
        fails(full(), "222", 1, 0);
        fails(full(), "parted 0 1 0 0 0 0 0 0 222;", 1, 23);
        fails(full(), "parted 0 1 0 0 0 0 0 0 99;", 1, 23);
        // of three figures, and there is none such
        fails(full(), "far 999 0;", 2, 4);
        fails(full(), "parted 0 1 999;", 2, 11);
        // a word that cannot stand there, and a thirteenth
        fails(full(), "far 0 1;".repeat(12) + "fat 0 1;", 1, 96);
    }

    private static void answersAsTold() {
        Check.sentence("ANSWERS are by THE NET as it is when it is read: 1, 0; of far, next as told.");
        NameNets x = Check.net(12, Ends.way(11));
        reads(x, "above 0 10;above 10 0;joined 9 10;joined 0 10;far 0 10;far 10 11;far 11 11;next 0 10;next 10 0;next 11 0;"
            + "parted 0 10 9;parted 0 9 9;", 12);
        int[] due = {1, 0, 1, 0, 10, NONE, 0, 1, 9, NONE, 1, 0};
        for (int i = 0; i < 12; i++) {
            Check.due("said(" + i + ")", x.said(i), due[i]);
        }
        reads(x, "parted 0 11;parted 11 11;parted 0 10;parted 0 10 0 1 2 3 4 5;parted 6 10 0 1 2 3 4 5;", 5);
        int[] parted = {1, 0, 0, 1, 0};
        for (int i = 0; i < 5; i++) {
            Check.due("said(" + i + ")", x.said(i), parted[i]);
        }
    }

    private static void answersByTheNetNow() {
        Check.sentence("ANSWERS are by THE NET as it is when it is read");
        NameNets x = Check.net(2, 0, 1);
        Check.feed(x, "joined 0 1;far 0 2;");
        Check.due("post()", x.post(), 2);
        Check.due("strike(0)", x.strike(0), 0);
        Check.due("read()", x.read(), 2);
        Check.due("not as it was when it was fed", x.said(0), 0);
        Check.due("a POST that came later", x.said(1), NONE);
        Check.due("line(0, 1)", x.line(0, 1), 0);
        Check.due("ANSWERS stay as they were", x.said(0), 0);
        x.net(1);
        Check.due("ANSWERS stay as they were", x.said(1), NONE);
        fails(x, "joined 0 1;", 3, 9);
    }

    private static void answersGoOrStay() {
        Check.sentence("-10 less the number of its FAULT (ANSWERS stay).");
        NameNets x = reads(full(), "next 0 5;next 0 6;", 2);
        String[] wrong = {"next 0 7;next 0 8;next 0 9;?", "next 0 7;next 0 111;", "next 0 7;next 0 12;", "next 0 7;".repeat(13)};
        for (int number = 1; number <= 4; number++) {
            Check.feed(x, wrong[number - 1]);
            Check.due("read() with FAULT " + number, x.read(), -10 - number);
            Check.due("ANSWERS", x.count(6), 2);
            Check.due("said(0)", x.said(0), 5);
            Check.due("said(1)", x.said(1), 6);
            Check.due("said(2)", x.said(2), UNKNOWN);
        }
        reads(x, "next 0 3;", 1);
        Check.due("said(0)", x.said(0), 3);
        Check.due("those of an earlier one go", x.said(1), UNKNOWN);
    }

    private static void faultOfTheLatest() {
        Check.sentence("The byte of the FAULT of the latest read(); NONE.");
        NameNets x = full();
        Check.due("none was read", x.fault(), NONE);
        fails(x, "?", 1, 0);
        Check.feed(x, "far 0 1;");
        Check.due("as long as nothing is read", x.fault(), 0);
        Check.due("read()", x.read(), 1);
        Check.due("no FAULT", x.fault(), NONE);
        fails(x, " ".repeat(199) + "?", 1, 199);
        Check.due("asked again", x.fault(), 199);
        fails(x, " ".repeat(196) + "next", 1, 200);
        Check.due("read() of no text", x.read(), 0);
        Check.due("no FAULT", x.fault(), NONE);
    }

    private static void saidBounds() {
        Check.sentence("ANSWER i. UNKNOWN: there is none such. (What is told may be NONE.)");
        NameNets x = full();
        for (int i : Check.beyond(0, -1)) {
            Check.due("said(" + i + ") of none", x.said(i), UNKNOWN);
        }
        for (int many = 12; many >= 1; many--) {
            reads(x, "far 0 0;".repeat(many), many);
            Check.due("the first", x.said(0), 0);
            Check.due("the last", x.said(many - 1), 0);
            for (int i : Check.beyond(0, many - 1)) {
                Check.due("said(" + i + ") of " + many, x.said(i), UNKNOWN);
            }
        }
        NameNets apart = reads(Check.net(2), "far 0 1;next 1 0;", 2);
        Check.due("NONE is an ANSWER", apart.said(0), NONE);
        Check.due("NONE is an ANSWER", apart.said(1), NONE);
        Check.due("UNKNOWN is none", apart.said(2), UNKNOWN);
    }
}
