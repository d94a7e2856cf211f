/** The bounds of THE BOOK, sentence by sentence: promises 13 to 18 and what 'Terms' say of them. */
public final class BookEdgeTest {
    private static final int NONE = -1, UNKNOWN = -1001, OUTSIDE = -1002, NOT = -1003, DAMAGED = -1005;

    private BookEdgeTest() {
    }

    public static void main(String[] args) {
        learnAll();
        learnAgain();
        learnGone();
        learnNew();
        learnRefused();
        checkWrapsAround();
        checksStay();
        forgeBounds();
        forgeUnknown();
        forgeKindAheadOfAll();
        bookNumbers();
        bookUnknown();
        bookKindAheadOfAll();
        answerByTheBookAlone();
        answerDamaged();
        answerNotDamaged();
        answerUnknown();
        staleSets();
        staleAlone();
        staleNot();
        damagedLeastAndMost();
        damagedNot();
        Check.finish();
    }

    private static void learnAll() {
        Check.sentence("how many POSTS have another NAME in THE BOOK than before (all, if it was not LEARNED");
        for (int n = 1; n <= 12; n++) {
            NameNets x = Check.net(n, Ends.way(n));
            for (int kind = 0; kind < 3; kind++) {
                Check.due("KINDS LEARNED", x.count(4), kind);
                Check.due("learn(" + kind + ") of " + n, x.learn(kind), n);
                Check.due("the last POST is there", x.book(kind, n - 1, 0) >= 0 ? 1 : 0, 1);
                Check.due("the first that is not", x.book(kind, n, 0), UNKNOWN);
            }
        }
    }

    private static void learnAgain() {
        Check.sentence("how many POSTS have another NAME in THE BOOK than before");
        NameNets x = Check.net(12, Ends.full());
        for (int kind = 0; kind < 3; kind++) {
            x.learn(kind);
            Check.due("again", x.learn(kind), 0);
            Check.due("FORGED", x.forge(kind, 11, 0, 99) >= 0 ? 1 : 0, 1);
            Check.due("one was FORGED", x.learn(kind), 1);
            Check.due("and is right again", x.learn(kind), 0);
            int was = x.forge(kind, 0, 0, 98);
            x.forge(kind, 0, 0, was);
            Check.due("FORGED and FORGED back", x.learn(kind), 0);
            for (int p = 0; p < 12; p++) {
                x.forge(kind, p, 0, 97);
            }
            Check.due("all were FORGED", x.learn(kind), 12);
        }
    }

    private static void learnGone() {
        Check.sentence("(all, if it was not LEARNED; those that are gone from it, too)");
        for (int n = 1; n <= 12; n++) {
            NameNets x = Check.net(12);
            for (int kind = 0; kind < 3; kind++) {
                x.learn(kind);
            }
            x.net(n);
            for (int kind = 0; kind < 3; kind++) {
                // without LINES a NAME is the same in each net that has its POST
                Check.due("learn(" + kind + ") from 12 to " + n, x.learn(kind), 12 - n);
                Check.due("the last one", x.book(kind, n - 1, 0), n - 1);
                Check.due("the first that is gone", x.book(kind, n, 0), UNKNOWN);
            }
        }
    }

    private static void learnNew() {
        Check.sentence("how many POSTS have another NAME in THE BOOK than before");
        for (int n = 1; n <= 12; n++) {
            NameNets x = Check.net(n);
            x.learn(0);
            x.net(12);
            Check.due("from " + n + " to 12", x.learn(0), 12 - n);
            Check.due("the last one", x.book(0, 11, 0), 11);
        }
    }

    private static void learnRefused() {
        Check.sentence("those that are gone from it, too). OUTSIDE.");
        NameNets x = new NameNets();
        for (int kind : Check.beyond(0, 2)) {
            Check.due("learn(" + kind + ")", x.learn(kind), OUTSIDE);
        }
        Check.due("KINDS LEARNED", x.count(4), 0);
        Check.due("learn(0)", x.learn(0), 1);
        Check.due("learn(2)", x.learn(2), 1);
    }

    private static void checkWrapsAround() {
        Check.sentence("the sum of number k times (k and 1), and 7 times how many, what is left of it by 101.");
        // 8: (1, 2, 3, 1, 8, 0), the sum is 58 and 42; 9: (0, 2, 2, 1, 9, 0), the sum is 59 and 42
        NameNets x = Check.net(12, 0, 4, 1, 2, 0, 3, 5, 7, 8, 11, 1, 11, 4, 9);
        x.learn(2);
        Check.due("100", x.book(2, 8, -2), 100);
        Check.due("101", x.book(2, 9, -2), 0);
        // 3: (0, 1, 1, 1, 2, 1, 3, 0), the sum is 46 and 56
        NameNets y = Check.net(4, Ends.pairs(4, 6));
        y.learn(2);
        Check.due("102", y.book(2, 3, -2), 1);
        // 1: (0, 5, 1, 4, 2, 3, 3, 1, 5, 0), the sum is 131 and 70
        NameNets z = Check.net(12, 1, 8, 4, 5, 6, 5, 10, 8, 4, 9, 6, 10);
        z.learn(2);
        Check.due("201", z.book(2, 1, -2), 100);
        // 0: (0, 5, 1, 4, 2, 2, 4, 1, 5, 0), the sum is 132 and 70
        NameNets w = Check.net(8, 0, 6, 2, 3, 5, 3, 5, 4, 1, 2, 4, 6);
        w.learn(2);
        Check.due("202", w.book(2, 0, -2), 0);
        for (int kind = 0; kind < 3; kind++) {
            NameNets one = new NameNets();
            one.learn(kind);
            Check.due("the least CHECK of KIND " + kind, one.book(kind, 0, -2), kind == 1 ? 7 : 14);
        }
    }

    private static void checksStay() {
        Check.sentence("A NAME in it may be FORGED: one of its numbers becomes another one; CHECKS stay.");
        NameNets x = Check.net(4, Ends.way(4));
        x.learn(0);
        // 3 is (3, 3): 3 and 6 and 14
        Check.due("CHECK", x.book(0, 3, -2), 23);
        Check.due("forge(0, 3, 0, 99)", x.forge(0, 3, 0, 99), 3);
        Check.due("the number", x.book(0, 3, 0), 99);
        Check.due("the other number", x.book(0, 3, 1), 3);
        Check.due("how many", x.book(0, 3, NONE), 2);
        Check.due("CHECK", x.book(0, 3, -2), 23);
        Check.due("another POST", x.book(0, 2, 0), 2);
        Check.due("learn(0)", x.learn(0), 1);
        Check.due("CHECK", x.book(0, 3, -2), 23);
        Check.due("the number", x.book(0, 3, 0), 3);
    }

    private static void forgeBounds() {
        Check.sentence("Number k of a NAME in THE BOOK becomes v (0 .. 99): what it was.");
        NameNets x = Check.net(8, Ends.pairs(8, 28));
        int[] sizes = {2, 8, 2};
        int[][] firsts = {{0, 7}, {0, 7}, {0, 0}};
        for (int kind = 0; kind < 3; kind++) {
            x.learn(kind);
            int size = sizes[kind];
            Check.due("the first number, the greatest v", x.forge(kind, 0, 0, 99), firsts[kind][0]);
            Check.due("the first number, the least v", x.forge(kind, 0, 0, 0), 99);
            Check.due("the last number, the greatest v", x.forge(kind, 0, size - 1, 99), firsts[kind][1]);
            Check.due("the last number, the least v", x.forge(kind, 0, size - 1, 0), 99);
            Check.due("what it is already", x.forge(kind, 0, size - 1, 0), 0);
            for (int v : Check.beyond(0, 99)) {
                Check.due("forge(" + kind + ", 0, 0, " + v + ")", x.forge(kind, 0, 0, v), OUTSIDE);
                Check.due("forge(" + kind + ", 0, last, " + v + ")", x.forge(kind, 0, size - 1, v), OUTSIDE);
            }
            for (int k : Check.beyond(0, size - 1)) {
                Check.due("forge(" + kind + ", 0, " + k + ", 0)", x.forge(kind, 0, k, 0), OUTSIDE);
                Check.due("forge(" + kind + ", 0, " + k + ", 99)", x.forge(kind, 0, k, 99), OUTSIDE);
            }
            Check.due("the CHECK is no number of it", x.forge(kind, 0, -2, 0), OUTSIDE);
            Check.due("refused: the first number", x.book(kind, 0, 0), 0);
            Check.due("refused: the last number", x.book(kind, 0, size - 1), 0);
            Check.due("refused: how many", x.book(kind, 0, NONE), size);
        }
    }

    private static void forgeUnknown() {
        Check.sentence("UNKNOWN (no such NAME), OUTSIDE (k, v).");
        NameNets x = Check.net(5, Ends.ring(5));
        x.learn(1);
        x.net(7);
        for (int p : Check.beyond(0, 4)) {
            Check.due("forge(1, " + p + ", 0, 0)", x.forge(1, p, 0, 0), UNKNOWN);
            Check.due("ahead of k", x.forge(1, p, -1, 0), UNKNOWN);
            Check.due("ahead of v", x.forge(1, p, 0, 100), UNKNOWN);
        }
        Check.due("a POST of THE NET alone", x.forge(1, 6, 0, 0), UNKNOWN);
        for (int p = 0; p < 12; p++) {
            Check.due("a KIND that was not LEARNED", x.forge(0, p, 0, 0), UNKNOWN);
        }
        x.net(1);
        Check.due("a POST of THE BOOK alone", x.forge(1, 4, 0, 50), 4);
        Check.due("it is FORGED", x.book(1, 4, 0), 50);
    }

    private static void forgeKindAheadOfAll() {
        Check.sentence("OUTSIDE (KIND, ahead of all), UNKNOWN (no such NAME), OUTSIDE (k, v).");
        NameNets x = new NameNets();
        for (int kind : Check.beyond(0, 2)) {
            Check.due("nothing LEARNED", x.forge(kind, 0, 0, 0), OUTSIDE);
            Check.due("no such POST", x.forge(kind, 12, 0, 0), OUTSIDE);
            Check.due("no such POST", x.forge(kind, -1, 0, 0), OUTSIDE);
            Check.due("all of it", x.forge(kind, Integer.MIN_VALUE, Integer.MIN_VALUE, Integer.MIN_VALUE), OUTSIDE);
        }
        Check.due("KIND 0", x.forge(0, 0, 0, 0), UNKNOWN);
        Check.due("KIND 2", x.forge(2, 0, 0, 0), UNKNOWN);
    }

    private static void bookNumbers() {
        Check.sentence("Number k of a NAME in THE BOOK; k = NONE: how many; -2: its CHECK; else NONE.");
        NameNets x = Check.net(12, Ends.full());
        for (int kind = 0; kind < 3; kind++) {
            x.learn(kind);
            for (int p = 0; p < 12; p += 11) {
                int many = x.name(kind, p, NONE);
                Check.due("how many", x.book(kind, p, NONE), many);
                int sum = 7 * many;
                for (int k = 0; k < many; k++) {
                    Check.due("number " + k, x.book(kind, p, k), x.name(kind, p, k));
                    sum += (k + 1) * x.name(kind, p, k);
                }
                Check.due("CHECK", x.book(kind, p, -2), sum % 101);
                for (int k : new int[] {many, many + 1, 24, -3, -4, Integer.MIN_VALUE, Integer.MAX_VALUE}) {
                    Check.due("number " + k, x.book(kind, p, k), NONE);
                }
            }
        }
    }

    private static void bookUnknown() {
        Check.sentence("-2: its CHECK; else NONE. OUTSIDE (KIND, ahead of all), UNKNOWN.");
        NameNets x = Check.net(12, Ends.ring(12));
        for (int kind = 0; kind < 3; kind++) {
            for (int k : new int[] {-3, -2, NONE, 0, 24}) {
                Check.due("not LEARNED", x.book(kind, 0, k), UNKNOWN);
            }
            x.learn(kind);
            for (int p : Check.beyond(0, 11)) {
                for (int k : new int[] {-3, -2, NONE, 0, 24}) {
                    Check.due("book(" + kind + ", " + p + ", " + k + ")", x.book(kind, p, k), UNKNOWN);
                }
            }
        }
        x.net(3);
        x.learn(0);
        Check.due("the last of three", x.book(0, 2, 0), 2);
        Check.due("one that was there before", x.book(0, 3, 0), UNKNOWN);
        Check.due("another KIND has it still", x.book(1, 11, 0) >= 0 ? 1 : 0, 1);
    }

    private static void bookKindAheadOfAll() {
        Check.sentence("else NONE. OUTSIDE (KIND, ahead of all), UNKNOWN.");
        NameNets x = new NameNets();
        for (int round = 0; round < 2; round++) {
            for (int kind : Check.beyond(0, 2)) {
                for (int p : new int[] {0, 1, -1, Integer.MIN_VALUE, Integer.MAX_VALUE}) {
                    Check.due("book(" + kind + ", " + p + ", 0)", x.book(kind, p, 0), OUTSIDE);
                    Check.due("book(" + kind + ", " + p + ", -3)", x.book(kind, p, -3), OUTSIDE);
                }
            }
            for (int kind = 0; kind < 3; kind++) {
                x.learn(kind);
            }
        }
    }

    private static void answerByTheBookAlone() {
        Check.sentence("By THE BOOK a question is answered by the NAMES there alone");
        NameNets x = Check.net(12, Ends.way(12));
        for (int kind = 0; kind < 3; kind++) {
            x.learn(kind);
        }
        x.net(1);
        for (int p = 0; p < 12; p++) {
            Check.due("0 ABOVE " + p, x.answer(0, 0, p), 1);
            Check.due(p + " ABOVE 0", x.answer(0, p, 0), p == 0 ? 1 : 0);
            Check.due("11 and " + p + " JOINED", x.answer(1, 11, p), p == 10 ? 1 : 0);
            Check.due("11 and " + p + " FAR", x.answer(2, 11, p), 11 - p);
        }
        x.learn(2);
        Check.due("FAR of one alone", x.answer(2, 0, 0), 0);
        Check.due("one that is gone", x.answer(2, 0, 1), UNKNOWN);
        x.net(2);
        x.learn(2);
        Check.due("NONE by THE BOOK", x.answer(2, 0, 1), NONE);
        x.line(0, 1);
        Check.due("NONE still", x.answer(2, 0, 1), NONE);
    }

    private static void answerDamaged() {
        Check.sentence("DAMAGED, if the CHECK of one of both is not right.");
        for (int kind = 0; kind < 3; kind++) {
            NameNets x = Check.net(3, Ends.way(3));
            x.learn(kind);
            // one number alone never leaves the CHECK right: 101 is prime and no change is as great
            int last = x.book(kind, 1, NONE) - 1;
            for (int k = 0; k <= last; k += Math.max(1, last)) {
                int was = x.book(kind, 1, k);
                for (int v = 0; v <= 99; v += 1 + v % 3 * 15) {
                    x.forge(kind, 1, k, v);
                    boolean right = v == was;
                    Check.due("the first of both", x.answer(kind, 1, 0) == DAMAGED ? 1 : 0, right ? 0 : 1);
                    Check.due("the second of both", x.answer(kind, 2, 1) == DAMAGED ? 1 : 0, right ? 0 : 1);
                    Check.due("twice", x.answer(kind, 1, 1) == DAMAGED ? 1 : 0, right ? 0 : 1);
                    Check.due("the others", x.answer(kind, 0, 2) == DAMAGED ? 1 : 0, 0);
                }
                x.forge(kind, 1, k, was);
            }
            x.forge(kind, 0, 0, 50);
            x.forge(kind, 1, 0, 50);
            Check.due("both", x.answer(kind, 0, 1), DAMAGED);
        }
    }

    private static void answerNotDamaged() {
        Check.sentence("the sum of number k times (k and 1), and 7 times how many, what is left of it by 101.");
        NameNets x = Check.net(4, Ends.way(4));
        x.learn(0);
        // 0 is (0, 3): one more and 50 times two more is 101 more
        x.forge(0, 0, 0, 1);
        Check.due("one number", x.answer(0, 0, 0), DAMAGED);
        x.forge(0, 0, 1, 53);
        Check.due("101 more is as right as before", x.answer(0, 0, 0), 1);
        Check.due("1 is ABOVE 0, whose ENTER is 1", x.answer(0, 1, 0), 1);
        Check.due("0 ABOVE 3", x.answer(0, 0, 3), 1);
        Check.due("none", x.damaged(0), 0);
        x.forge(0, 0, 1, 52);
        Check.due("99 more is not", x.answer(0, 0, 0), DAMAGED);
        x.forge(0, 0, 1, 54);
        Check.due("103 more is not", x.answer(0, 0, 0), DAMAGED);
        // (99, 54) has 99 and 108 for 0 and 6: 201 more, and (99, 4) has 99 and 8: 101 more
        x.forge(0, 0, 0, 99);
        Check.due("201 more is not", x.answer(0, 0, 0), DAMAGED);
        x.forge(0, 0, 1, 4);
        Check.due("101 more is", x.answer(0, 0, 0), 0);
        Check.due("ENTER beyond LEAVE is ABOVE none", x.answer(0, 0, 3), 0);
    }

    private static void answerUnknown() {
        Check.sentence("As ask(), by THE BOOK. OUTSIDE (KIND, ahead of all), UNKNOWN (a NAME that is not there); DAMAGED.");
        NameNets x = Check.net(4, Ends.way(4));
        for (int kind = 0; kind < 3; kind++) {
            Check.due("not LEARNED", x.answer(kind, 0, 0), UNKNOWN);
        }
        for (int kind : Check.beyond(0, 2)) {
            Check.due("KIND, nothing LEARNED", x.answer(kind, 0, 0), OUTSIDE);
            Check.due("KIND, no such POST", x.answer(kind, 4, -1), OUTSIDE);
        }
        for (int kind = 0; kind < 3; kind++) {
            x.learn(kind);
            x.forge(kind, 3, 0, 88);
            for (int p : Check.beyond(0, 3)) {
                Check.due("the first of both", x.answer(kind, p, 0), UNKNOWN);
                Check.due("the second of both", x.answer(kind, 0, p), UNKNOWN);
                Check.due("both", x.answer(kind, p, p), UNKNOWN);
                Check.due("ahead of DAMAGED", x.answer(kind, 3, p), UNKNOWN);
                Check.due("ahead of DAMAGED", x.answer(kind, p, 3), UNKNOWN);
            }
            Check.due("DAMAGED alone", x.answer(kind, 3, 0), DAMAGED);
        }
        for (int kind : Check.beyond(0, 2)) {
            Check.due("KIND, DAMAGED", x.answer(kind, 3, 3), OUTSIDE);
        }
    }

    private static void staleSets() {
        Check.sentence("STALE of a KIND are POSTS whose NAMES there are not those by THE NET now");
        NameNets x = Check.net(12);
        for (int kind = 0; kind < 3; kind++) {
            x.learn(kind);
            Check.due("none", x.stale(kind), 0);
            for (int p = 0; p < 12; p++) {
                int was = x.forge(kind, p, 0, 99);
                Check.due("FORGED: " + p + " alone", x.stale(kind), 1 << p);
                x.forge(kind, p, 0, was);
                Check.due("FORGED back", x.stale(kind), 0);
            }
            for (int p = 0; p < 12; p++) {
                x.forge(kind, p, 0, 99);
            }
            Check.due("all twelve", x.stale(kind), 4095);
            x.learn(kind);
        }
        x.line(0, 1);
        // LEAVE of 0 is 1 now; 2 .. 11 go first; 1 gets RANK 0 at a distance of 1
        Check.due("KIND 0", x.stale(0), 1);
        Check.due("KIND 1, TURNS of all are others", x.stale(1), 4095);
        Check.due("KIND 2, 1 knows 0", x.stale(2), 2);
        x.strike(0);
        Check.due("as it was", x.stale(0) | x.stale(1) | x.stale(2), 0);
    }

    private static void staleAlone() {
        Check.sentence("(a POST that is in THE BOOK or in THE NET alone is STALE, too)");
        for (int n = 1; n <= 12; n++) {
            NameNets x = Check.net(n);
            for (int kind = 0; kind < 3; kind++) {
                x.learn(kind);
            }
            for (int now = 1; now <= 12; now++) {
                x.net(now);
                // without LINES those that are in both have the same NAME
                int both = (1 << Math.min(n, now)) - 1;
                int one = (1 << Math.max(n, now)) - 1;
                for (int kind = 0; kind < 3; kind++) {
                    Check.due("stale(" + kind + ") of " + n + " with " + now, x.stale(kind), one - both);
                }
            }
        }
    }

    private static void staleNot() {
        Check.sentence("STALE POSTS of a KIND, as a SET. OUTSIDE; NOT: it was not LEARNED.");
        NameNets x = Check.net(12, Ends.full());
        for (int kind = 0; kind < 3; kind++) {
            for (int later = kind; later < 3; later++) {
                Check.due("stale(" + later + ")", x.stale(later), NOT);
            }
            x.learn(kind);
            Check.due("stale(" + kind + ")", x.stale(kind), 0);
        }
        for (int kind : Check.beyond(0, 2)) {
            Check.due("stale(" + kind + ")", x.stale(kind), OUTSIDE);
            Check.due("stale(" + kind + ") of a new one", new NameNets().stale(kind), OUTSIDE);
        }
        x.net(1);
        Check.due("once LEARNED, it is", x.stale(0), 4095);
    }

    private static void damagedLeastAndMost() {
        Check.sentence("How many NAMES of a KIND in THE BOOK have a CHECK that is not right.");
        NameNets x = Check.net(12, Ends.star(12, 0));
        for (int kind = 0; kind < 3; kind++) {
            x.learn(kind);
            for (int p = 0; p < 12; p++) {
                Check.due("damaged(" + kind + ")", x.damaged(kind), p);
                x.forge(kind, p, 0, 99);
            }
            Check.due("all twelve", x.damaged(kind), 12);
        }
        x.net(1);
        Check.due("those of THE BOOK alone, too", x.damaged(2), 12);
        x.learn(2);
        Check.due("LEARNED anew", x.damaged(2), 0);
        Check.due("another KIND", x.damaged(1), 12);
    }

    private static void damagedNot() {
        Check.sentence("have a CHECK that is not right. OUTSIDE; NOT.");
        NameNets x = Check.net(12, Ends.full());
        for (int kind = 0; kind < 3; kind++) {
            for (int later = kind; later < 3; later++) {
                Check.due("damaged(" + later + ")", x.damaged(later), NOT);
            }
            x.learn(kind);
            Check.due("damaged(" + kind + ")", x.damaged(kind), 0);
        }
        for (int kind : Check.beyond(0, 2)) {
            Check.due("damaged(" + kind + ")", x.damaged(kind), OUTSIDE);
            Check.due("damaged(" + kind + ") of a new one", new NameNets().damaged(kind), OUTSIDE);
        }
    }
}
