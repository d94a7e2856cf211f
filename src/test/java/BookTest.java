/** Promises 13 to 18: learn, forge, book, answer, stale, damaged. */
public final class BookTest {
    private static final int NONE = -1, UNKNOWN = -1001, OUTSIDE = -1002, NOT = -1003, DAMAGED = -1005;
    private static final int[] WRONG_KINDS = {-1, 3, Integer.MIN_VALUE, Integer.MAX_VALUE};

    private BookTest() {
    }

    public static void main(String[] args) {
        learn();
        learnForged();
        forge();
        book();
        answer();
        answerByForgedNames();
        stale();
        damaged();
        Check.finish();
    }

    private static void learn() {
        NameNets x = Check.net(4, 0, 1, 1, 2, 2, 3);
        Check.due("all, as it was not LEARNED", x.learn(0), 4);
        Check.due("learn(0) again", x.learn(0), 0);
        Check.due("another KIND", x.learn(1), 4);
        x.strike(2);
        Check.due("3 becomes a root: LEAVE of 0, 1, 2 is less", x.learn(0), 3);
        x.net(2);
        // 0 was (0, 2), 1 was (1, 2), 2 and 3 are gone
        Check.due("those that are gone count", x.learn(0), 4);
        x.post();
        Check.due("those that are new count", x.learn(0), 1);
        for (int kind : WRONG_KINDS) {
            Check.due("learn(" + kind + ")", x.learn(kind), OUTSIDE);
        }
        Check.due("KINDS LEARNED", x.count(4), 2);
    }

    private static void learnForged() {
        NameNets x = Check.net(3, 0, 1, 1, 2);
        x.learn(2);
        Check.due("forge(2, 2, 1, 9)", x.forge(2, 2, 1, 9), 1);
        Check.due("the forged one alone", x.learn(2), 1);
        Check.due("its number is right again", x.book(2, 2, 1), 1);
        Check.due("damaged(2)", x.damaged(2), 0);
        // forged to what the net will say: the name stays, its check is made anew
        x.learn(0);
        Check.due("forge(0, 1, 1, 1)", x.forge(0, 1, 1, 1), 2);
        x.strike(1);
        Check.due("stale(0)", x.stale(0), 1);
        Check.due("damaged(0)", x.damaged(0), 1);
        Check.due("learn(0)", x.learn(0), 1);
        Check.due("damaged(0)", x.damaged(0), 0);
        Check.due("its check", x.book(0, 1, -2), 1 + 2 + 14);
    }

    private static void forge() {
        NameNets x = Check.net(3, 0, 1, 1, 2);
        Check.due("not LEARNED", x.forge(0, 0, 0, 0), UNKNOWN);
        for (int kind : WRONG_KINDS) {
            Check.due("forge(" + kind + ", 9, 9, 100)", x.forge(kind, 9, 9, 100), OUTSIDE);
        }
        x.learn(0);
        Check.due("forge(0, 0, 1, 99)", x.forge(0, 0, 1, 99), 2);
        Check.due("forge(0, 0, 1, 0)", x.forge(0, 0, 1, 0), 99);
        Check.due("forge(0, 3, 0, 0)", x.forge(0, 3, 0, 0), UNKNOWN);
        Check.due("forge(0, -1, 0, 0)", x.forge(0, -1, 0, 0), UNKNOWN);
        Check.due("UNKNOWN ahead of k, v", x.forge(0, 3, 9, 100), UNKNOWN);
        Check.due("forge(0, 0, 2, 0)", x.forge(0, 0, 2, 0), OUTSIDE);
        Check.due("forge(0, 0, -1, 0)", x.forge(0, 0, -1, 0), OUTSIDE);
        Check.due("forge(0, 0, 0, 100)", x.forge(0, 0, 0, 100), OUTSIDE);
        Check.due("forge(0, 0, 0, -1)", x.forge(0, 0, 0, -1), OUTSIDE);
        Check.due("refused: it stays", x.book(0, 0, 0), 0);
        Check.due("the net's own name stays", x.name(0, 0, 1), 2);
        x.net(1);
        Check.due("a post of THE BOOK alone", x.forge(0, 2, 0, 7), 2);
    }

    private static void book() {
        NameNets x = Check.net(5, 0, 1, 1, 2, 2, 3, 3, 4, 4, 0);
        Check.due("not LEARNED", x.book(2, 3, 0), UNKNOWN);
        x.learn(2);
        int[] name = {0, 2, 1, 2, 2, 1, 3, 0};
        Check.due("how many", x.book(2, 3, -1), 8);
        for (int k = 0; k < 8; k++) {
            Check.due("book(2, 3, " + k + ")", x.book(2, 3, k), name[k]);
        }
        // 0 + 4 + 3 + 8 + 10 + 6 + 21 + 0 + 56 = 108
        Check.due("CHECK", x.book(2, 3, -2), 7);
        Check.due("book(2, 3, 8)", x.book(2, 3, 8), NONE);
        Check.due("book(2, 3, -3)", x.book(2, 3, -3), NONE);
        Check.due("book(2, 3, max)", x.book(2, 3, Integer.MAX_VALUE), NONE);
        x.forge(2, 3, 0, 50);
        Check.due("CHECKS stay", x.book(2, 3, -2), 7);
        Check.due("the forged number", x.book(2, 3, 0), 50);
        Check.due("book(2, 5, 0)", x.book(2, 5, 0), UNKNOWN);
        Check.due("book(2, -1, 0)", x.book(2, -1, 0), UNKNOWN);
        for (int kind : WRONG_KINDS) {
            Check.due("book(" + kind + ", 9, 0)", x.book(kind, 9, 0), OUTSIDE);
        }
        x.strike(0);
        Check.due("the net's change leaves THE BOOK", x.book(2, 3, 7), 0);
    }

    private static void answer() {
        NameNets x = Check.net(4, 0, 1, 1, 2, 2, 3);
        Check.due("not LEARNED", x.answer(0, 0, 1), UNKNOWN);
        x.learn(0);
        x.learn(1);
        x.learn(2);
        x.net(6);
        Check.due("above, as it was", x.answer(0, 1, 3), 1);
        Check.due("not above", x.answer(0, 3, 1), 0);
        Check.due("joined, as they were", x.answer(1, 2, 1), 1);
        Check.due("not joined", x.answer(1, 0, 2), 0);
        Check.due("far, as they were", x.answer(2, 3, 0), 3);
        Check.due("a post of THE NET alone", x.answer(2, 0, 4), UNKNOWN);
        Check.due("a post of THE NET alone", x.answer(2, 5, 0), UNKNOWN);
        x.forge(2, 0, 0, 44);
        Check.due("DAMAGED, the first", x.answer(2, 0, 1), DAMAGED);
        Check.due("DAMAGED, the second", x.answer(2, 1, 0), DAMAGED);
        Check.due("DAMAGED and itself", x.answer(2, 0, 0), DAMAGED);
        Check.due("UNKNOWN ahead of DAMAGED", x.answer(2, 0, 4), UNKNOWN);
        Check.due("the others", x.answer(2, 1, 3), 2);
        for (int kind : WRONG_KINDS) {
            Check.due("answer(" + kind + ", 9, 9)", x.answer(kind, 9, 9), OUTSIDE);
        }
        x.learn(2);
        Check.due("no way by new names", x.answer(2, 0, 3), NONE);
    }

    /** Two numbers of a name are forged so that its check is right: the answer is by the numbers there. */
    private static void answerByForgedNames() {
        NameNets x = Check.net(4, 0, 1, 1, 2, 2, 3);
        x.learn(0);
        // post 3 is (3, 3): 3 + 6 = 1 + 8
        x.forge(0, 3, 0, 1);
        x.forge(0, 3, 1, 4);
        Check.due("damaged(0)", x.damaged(0), 0);
        Check.due("3 above 2 by forged names", x.answer(0, 3, 2), 1);
        Check.due("1 above 3 still", x.answer(0, 1, 3), 1);
        Check.due("2 above 3 no more", x.answer(0, 2, 3), 0);
        x.learn(1);
        // TURNS are the posts' numbers, post 2 is (2, 3): 2 + 6 = 0 + 8
        x.forge(1, 2, 0, 0);
        x.forge(1, 2, 1, 4);
        Check.due("the check is right", x.damaged(1), 0);
        Check.due("2 and 3 no more", x.answer(1, 2, 3), 0);
        Check.due("2 and 1 no more", x.answer(1, 2, 1), 0);
        x.learn(1);
        Check.due("not joined with itself", x.answer(1, 2, 2), 0);
        // 70 + 140 = 210 = 8 + 202
        x.forge(1, 2, 0, 70);
        x.forge(1, 2, 1, 70);
        Check.due("its TURN behind itself", x.answer(1, 2, 2), 1);
        farByForgedNames();
    }

    private static void farByForgedNames() {
        // a star: post 1 is (0, 1, 1, 0), post 2 is (0, 1, 2, 0)
        NameNets x = Check.net(3, 0, 1, 0, 2);
        x.learn(2);
        Check.due("by the middle", x.answer(2, 1, 2), 2);
        // (0, 1, 0, 26): 2 + 104 = 106, and 2 + 3 = 5 before
        x.forge(2, 1, 2, 0);
        x.forge(2, 1, 3, 26);
        Check.due("its check is right", x.damaged(2), 0);
        Check.due("the least of a rank that is there twice", x.answer(2, 1, 2), 2);
        Check.due("and with itself", x.answer(2, 1, 1), 2);
        // (0, 26, 0, 64): 52 + 256 = 308 = 5 + 303
        x.forge(2, 1, 1, 26);
        x.forge(2, 1, 3, 64);
        Check.due("its check is right", x.damaged(2), 0);
        Check.due("greater numbers", x.answer(2, 1, 2), 27);
        // (0, 64, 0, 45): 128 + 180 = 308
        x.forge(2, 1, 1, 64);
        x.forge(2, 1, 3, 45);
        Check.due("its check is right", x.damaged(2), 0);
        Check.due("the lesser one behind the greater one", x.answer(2, 2, 1), 46);
    }

    private static void stale() {
        NameNets x = Check.net(4, 0, 1, 1, 2, 2, 3);
        Check.due("not LEARNED", x.stale(1), NOT);
        x.learn(0);
        Check.due("as LEARNED", x.stale(0), 0);
        Check.due("another KIND is not", x.stale(2), NOT);
        x.strike(2);
        Check.due("0, 1, 2 lead to less", x.stale(0), 7);
        x.line(3, 2);
        Check.due("as it was", x.stale(0), 0);
        x.post();
        Check.due("in THE NET alone", x.stale(0), 16);
        x.net(1);
        Check.due("in THE BOOK alone", x.stale(0), 15);
        x.learn(0);
        x.forge(0, 0, 0, 1);
        Check.due("forged", x.stale(0), 1);
        x.forge(0, 0, 0, 0);
        Check.due("forged back", x.stale(0), 0);
        for (int kind : WRONG_KINDS) {
            Check.due("stale(" + kind + ")", x.stale(kind), OUTSIDE);
        }
    }

    private static void damaged() {
        NameNets x = Check.net(4, 0, 1, 1, 2, 2, 3);
        Check.due("not LEARNED", x.damaged(0), NOT);
        x.learn(0);
        Check.due("none", x.damaged(0), 0);
        x.forge(0, 1, 0, 9);
        x.forge(0, 3, 1, 9);
        Check.due("two", x.damaged(0), 2);
        x.net(1);
        Check.due("THE NET has no say", x.damaged(0), 2);
        x.forge(0, 1, 0, 1);
        Check.due("one is right again", x.damaged(0), 1);
        x.forge(0, 0, 0, 0);
        Check.due("forged to what it was", x.damaged(0), 1);
        x.forge(0, 0, 0, 1);
        Check.due("post 0 counts, too", x.damaged(0), 2);
        for (int kind : WRONG_KINDS) {
            Check.due("damaged(" + kind + ")", x.damaged(kind), OUTSIDE);
        }
    }
}
