/**
 * Sentences of 'Terms' 4, and of promises 19 to 27, that name a boundary:
 * each has a test of its own, with the sentence above it.
 */
public final class GuessesTest {
    private static final int OUTSIDE = -2, STATE = -3, FULL = -4, NONE = -6;
    private static final long GONE_OUTSIDE = -1000000000000000002L;
    private static final Due DUE = new Due();

    public static void main(String[] args) {
        sightsPayAndSum();
        sightsEight();
        sightsForgotten();
        holdsAll();
        holdsRising();
        holdsNone();
        sightsAtMost();
        askNothingSeen();
        askOneRow();
        askLeast();
        askNone();
        fugueNoEvenings();
        fugueBorrowsBelowNine();
        fugueNineAtMost();
        fugueOwesNothing();
        fugueTenths();
        fugueTheSame();
        fugueLowestTerms();
        fugueLater();
        fugueEightEvenings();
        oneAfterTheOther();
        fugueNumbers();
        yearEachAct();
        yearCanNotBe();
        yearBorrows();
        yearFromAllAsItIs();
        yearNothingIsDone();
        yearNumbers();
        yearLong();
        imagesKept();
        imagesOfEverything();
        imagesWithoutPad();
        imagesRefused();
        toldEverything();
        toldOfNobody();
        DUE.end();
    }

    private static void is(String what, long got, long want) {
        DUE.is(what, got, want);
    }

    private static void finish(DebtChoir x, String text) {
        Due.write(x, text);
        is("done " + text, x.done() > 0 ? 1 : 0, 1);
    }

    private static DebtChoir sights(int... paysAndSums) {
        DebtChoir x = new DebtChoir();
        for (int i = 0; i + 1 < paysAndSums.length; i += 2) {
            x.seen(paysAndSums[i], paysAndSums[i + 1]);
        }
        return x;
    }

    private static void holdsAre(String sentence, DebtChoir x, int... rows) {
        is("21 " + sentence + ": how many", x.holds(-1), rows.length);
        for (int i = 0; i < rows.length; i++) {
            is("21 " + sentence + ": row " + i, x.holds(i), rows[i]);
        }
        is("21 " + sentence + ": one more", x.holds(rows.length), NONE);
        is("21 " + sentence + ": below -1", x.holds(-2), NONE);
    }

    private static void askIs(String sentence, DebtChoir x, int pay, int left) {
        is("22 " + sentence + ": the pay", x.ask(0), pay);
        is("22 " + sentence + ": how many", x.ask(1), left);
    }

    /** "if one bar pays p (1 to 9), both together sing s (0 to 18) off". */
    private static void sightsPayAndSum() {
        DebtChoir x = new DebtChoir();
        is("19 least", x.seen(1, 0), 1);
        is("19 greatest", x.seen(9, 18), 2);
        is("19 more than two can", x.seen(1, 18), 3);
        is("19 p 0", x.seen(0, 0), OUTSIDE);
        is("19 p 10", x.seen(10, 0), OUTSIDE);
        is("19 s -1", x.seen(1, -1), OUTSIDE);
        is("19 s 19", x.seen(9, 19), OUTSIDE);
        is("19 three", x.told(3), 3);
    }

    /** "SIGHTS, 8 at most". */
    private static void sightsEight() {
        DebtChoir x = new DebtChoir();
        for (int i = 1; i <= 7; i++) {
            is("19 the same again counts", x.seen(9, 9), i);
        }
        is("19 the eighth", x.seen(9, 10), 8);
        is("19 the ninth", x.seen(9, 9), FULL);
        is("19 outside ahead of full: p", x.seen(0, 9), OUTSIDE);
        is("19 outside ahead of full: s", x.seen(9, 19), OUTSIDE);
        is("19 eight", x.told(3), 8);
        is("21 the eighth counts", x.holds(-1), 0);
    }

    /** "SIGHTS go: how many there were". */
    private static void sightsForgotten() {
        DebtChoir x = sights();
        is("20 none", x.forget(), 0);
        x = sights(1, 1, 2, 2, 3, 3, 4, 4, 5, 5, 6, 6, 7, 7, 8, 8);
        is("20 eight", x.forget(), 8);
        is("20 none again", x.forget(), 0);
        is("20 told", x.told(3), 0);
        is("20 all rows hold", x.holds(-1), 100);
        is("20 the first again", x.seen(9, 0), 1);
        holdsAre("only what was seen then", x, 0);
    }

    /** No SIGHTS: all rows. */
    private static void holdsAll() {
        DebtChoir x = sights();
        is("21 how many", x.holds(-1), 100);
        for (int i = 0; i < 100; i++) {
            is("21 row " + i, x.holds(i), i);
        }
        is("21 row 100", x.holds(100), NONE);
        is("21 -2", x.holds(-2), NONE);
        is("21 least", x.holds(Integer.MIN_VALUE), NONE);
        is("21 most", x.holds(Integer.MAX_VALUE), NONE);
    }

    /** "(10 times what the first one owes, and the second one; rising)". */
    private static void holdsRising() {
        holdsAre("sum 3", sights(9, 3), 3, 12, 21, 30);
        holdsAre("sum 17", sights(9, 17), 89, 98);
        holdsAre("sum 18", sights(9, 18), 99);
        holdsAre("sum 0", sights(9, 0), 0);
        holdsAre("sum 1", sights(9, 1), 1, 10);
        holdsAre("two sights", sights(9, 3, 2, 2), 3, 30);
    }

    private static void holdsNone() {
        holdsAre("more than two can", sights(1, 3));
        holdsAre("no such row", sights(9, 18, 9, 17));
        is("21 no first row", sights(1, 3).holds(0), NONE);
    }

    /** "each p at most, and no more than he owes (all by what they owe at first)". */
    private static void sightsAtMost() {
        holdsAre("one at most each", sights(1, 2, 9, 2), 11);
        holdsAre("one of both owes nothing", sights(1, 1, 9, 2), 2, 20);
        holdsAre("both owe nothing", sights(1, 0), 0);
        holdsAre("at first, each time", sights(1, 2, 1, 2, 1, 2, 9, 4), 13, 22, 31);
        holdsAre("eight at most", sights(8, 16), 88, 89, 98, 99);
        is("21 1 at the least each", sights(1, 2).holds(-1), 81);
        is("21 5 at the least one", sights(5, 5).holds(-1), 14);
    }

    private static void askNothingSeen() {
        askIs("nothing seen", sights(), 9, 10);
    }

    /** One row: whatever the PAY, it is left: the least PAY. */
    private static void askOneRow() {
        askIs("99", sights(9, 18), 1, 1);
        askIs("00", sights(1, 0), 1, 1);
        askIs("two that no pay tells apart", sights(9, 17), 1, 2);
    }

    /** "so that, whatever the sum is, fewest of these are left at the most: the least". */
    private static void askLeast() {
        // 02, 11, 20: by 1: 1, 2, 1; by 2 and more: 2
        askIs("sum 2", sights(9, 2), 1, 2);
        // both owe 1 and more: by 9 the sums 2 to 18, nine rows of 10
        askIs("1 and more each", sights(1, 2), 9, 9);
        // 13, 22, 31, and 04, 40: by 1: two and three; by 2: two of 2, two of 3, one of 4; by 3: two and three
        askIs("sum 4", sights(9, 4), 2, 2);
        // both owe 2 and more: by 9 the sums 4 to 18, eight rows of 11; these, and those below, by another program
        askIs("by 2, 4", sights(2, 4), 9, 8);
        askIs("by 7, 7", sights(7, 7), 1, 6);
        askIs("by 3, 3", sights(3, 3), 8, 4);
        askIs("by 7, 6", sights(7, 6), 3, 2);
        askIs("by 6, 6", sights(6, 6), 7, 7);
    }

    /** "NONE: no row fits". */
    private static void askNone() {
        askIs("no row", sights(1, 3), NONE, NONE);
        is("22 outside ahead of none", sights(1, 3).ask(2), OUTSIDE);
        is("22 what 2", sights().ask(2), OUTSIDE);
        is("22 what -1", sights().ask(-1), OUTSIDE);
    }

    private static void fugueIs(String sentence, int[] v, long upper, long lower, int borrows) {
        DebtChoir x = new DebtChoir();
        String what = "23 " + sentence;
        is(what + ": upper", x.fugue(v[0], v[1], v[2], v[3], v[4], 0, 0), upper);
        is(what + ": lower", x.fugue(v[0], v[1], v[2], v[3], v[4], 0, 1), lower);
        is(what + ": whether, part 0", x.fugue(v[0], v[1], v[2], v[3], v[4], 1, 0), borrows);
        is(what + ": whether, part 1", x.fugue(v[0], v[1], v[2], v[3], v[4], 1, 1), borrows);
    }

    /** "has m evenings (0 to 8)": without evenings he pays what he owes, and borrows on none. */
    private static void fugueNoEvenings() {
        fugueIs("no evenings", new int[] {9, 0, 10, 9, 9}, -81, 1, 0);
        fugueIs("no evenings, nothing owed", new int[] {0, 0, 10, 9, 9}, 0, 1, 0);
        fugueIs("no evenings, no cost", new int[] {9, 0, 0, 9, 0}, 0, 1, 0);
    }

    /** "if he owes less than 9, he may borrow one more". */
    private static void fugueBorrowsBelowNine() {
        fugueIs("8 borrows", new int[] {8, 1, 10, 9, 8}, 9 - 64, 1, 1);
        fugueIs("9 does not", new int[] {9, 1, 10, 9, 8}, -64, 1, 0);
        fugueIs("9 does not, at no cost", new int[] {9, 1, 10, 9, 0}, 0, 1, 0);
        fugueIs("8 does, at no cost", new int[] {8, 1, 10, 9, 0}, 9, 1, 1);
        // 9: sings, 8; borrows, 9: sings, 8
        fugueIs("9, then 8", new int[] {9, 2, 10, 9, 1}, 9 - 8, 1, 0);
    }

    /** "else owes one more (9 at most)". */
    private static void fugueNineAtMost() {
        fugueIs("9 stays", new int[] {9, 1, 0, 0, 9}, -81, 1, 0);
        fugueIs("9 stays, eight times", new int[] {9, 8, 0, 9, 9}, -81, 1, 0);
        fugueIs("8 owes 9 behind it, so it borrows for nothing", new int[] {8, 1, 0, 1, 9}, -80, 1, 1);
        fugueIs("9 or 8", new int[] {9, 1, 5, 9, 1}, -17, 2, 0);
        fugueIs("8: 9 or 7", new int[] {8, 1, 5, 0, 1}, -8, 1, 0);
    }

    /** "if he owes something then": who owes nothing sings nothing, and owes no more. */
    private static void fugueOwesNothing() {
        fugueIs("nothing", new int[] {0, 8, 0, 0, 9}, 0, 1, 0);
        fugueIs("nothing, whatever the tenths", new int[] {0, 8, 5, 0, 9}, 0, 1, 0);
        fugueIs("borrows, and owes 2 then", new int[] {0, 1, 0, 9, 4}, 1, 1, 1);
        fugueIs("borrows, and sings it off", new int[] {0, 1, 10, 1, 9}, 1, 1, 1);
        fugueIs("0 is nothing behind 1", new int[] {1, 2, 10, 0, 9}, 0, 1, 0);
    }

    /** "with t tenths (0 to 10)". */
    private static void fugueTenths() {
        fugueIs("0 tenths", new int[] {1, 1, 0, 0, 1}, -2, 1, 0);
        fugueIs("1 tenth", new int[] {1, 1, 1, 0, 1}, -9, 5, 0);
        fugueIs("9 tenths", new int[] {1, 1, 9, 0, 1}, -1, 5, 0);
        fugueIs("10 tenths", new int[] {1, 1, 10, 0, 1}, 0, 1, 0);
    }

    /** "(1, 0; if it is the same, he does not)". */
    private static void fugueTheSame() {
        fugueIs("8, the same", new int[] {8, 1, 10, 9, 9}, -63, 1, 0);
        fugueIs("0, the same", new int[] {0, 1, 0, 8, 4}, 0, 1, 0);
        fugueIs("0, one more", new int[] {0, 1, 0, 9, 4}, 1, 1, 1);
        fugueIs("0, for nothing", new int[] {0, 8, 10, 0, 9}, 0, 1, 0);
        fugueIs("8, for nothing", new int[] {8, 1, 0, 0, 9}, -81, 1, 0);
        fugueIs("at no cost, for nothing", new int[] {4, 3, 5, 0, 0}, 0, 1, 0);
        fugueIs("at no cost, for 1", new int[] {4, 3, 10, 1, 0}, 3, 1, 1);
    }

    /** "Fractions are told in lowest terms by part: 0 the upper, 1 the lower number"; "(it may be below 0)". */
    private static void fugueLowestTerms() {
        // 0 by 3 of 10; else 2: 1 by 3 of 10, or 3
        fugueIs("1, two evenings", new int[] {1, 2, 3, 0, 1}, -42, 25, 0);
        fugueIs("2, two evenings", new int[] {2, 2, 3, 0, 1}, -14, 5, 0);
        fugueIs("above 0", new int[] {0, 1, 3, 5, 3}, 4, 5, 1);
        fugueIs("nothing is 0 by 1", new int[] {0, 8, 3, 0, 9}, 0, 1, 0);
        fugueIs("whole", new int[] {5, 1, 5, 0, 2}, -10, 1, 0);
    }

    /** "whether he borrows on the first evening": not, though he does on a later one. */
    private static void fugueLater() {
        // at no cost, for 1, and he never sings it off: 8 ahead of the last evening, or 9 ahead of both
        fugueIs("7 borrows of one evening", new int[] {7, 1, 0, 1, 0}, 1, 1, 1);
        fugueIs("7 waits, it is the same", new int[] {7, 2, 0, 1, 0}, 1, 1, 0);
        // 1, 2; 3, 4; 5, 6; 7, 8; 9
        fugueIs("0 borrows five times", new int[] {0, 5, 0, 1, 0}, 5, 1, 1);
        fugueIs("0 waits for the last five", new int[] {0, 6, 0, 1, 0}, 5, 1, 0);
        // by another program: -888463 by 100000, if he borrows
        fugueIs("1 waits, it is better", new int[] {1, 5, 1, 4, 3}, -866853, 100000, 0);
    }

    /** The same object, asked one thing after the other: nothing is left of what was asked ahead. */
    private static void oneAfterTheOther() {
        DebtChoir x = new DebtChoir();
        is("23 borrows", x.fugue(0, 1, 0, 9, 4, 1, 0), 1);
        is("23 no evenings: does not", x.fugue(0, 0, 0, 9, 4, 1, 0), 0);
        is("23 borrows again", x.fugue(0, 1, 0, 9, 4, 1, 0), 1);
        is("23 no evenings: no mean", x.fugue(0, 0, 0, 9, 4, 0, 0), 0);
        is("23 one evening", x.fugue(9, 1, 5, 9, 1, 0, 1), 2);
        is("23 no evenings: whole", x.fugue(9, 0, 5, 9, 1, 0, 1), 1);
        is("22 all rows", x.ask(1), 10);
        is("19 one sight", x.seen(9, 18), 1);
        is("22 one row", x.ask(1), 1);
        is("21 one row", x.holds(1), NONE);
        is("20 forgotten", x.forget(), 1);
        is("21 all rows", x.holds(1), 1);
        is("22 all rows again", x.ask(1), 10);
    }

    /** The longest, by another program. */
    private static void fugueEightEvenings() {
        fugueIs("eight, all off", new int[] {9, 8, 10, 0, 9}, -9, 1, 0);
        fugueIs("eight, halves", new int[] {9, 8, 5, 0, 9}, -16533, 256, 0);
        fugueIs("eight, from 0", new int[] {0, 8, 5, 9, 9}, 315, 64, 1);
        fugueIs("eight, 1 of 10", new int[] {1, 8, 1, 0, 1}, -16999551, 2500000, 0);
        fugueIs("eight, 9 of 10", new int[] {1, 8, 9, 0, 9}, -36369, 2500000, 0);
        fugueIs("eight, not to be shortened", new int[] {1, 8, 3, 7, 9}, -2568871991L, 100000000, 0);
        fugueIs("eight, the most", new int[] {0, 8, 9, 9, 9}, 288020511, 5000000, 1);
        fugueIs("eight, most owed", new int[] {9, 8, 3, 0, 7}, -1169810607, 20000000, 0);
    }

    private static void fugueNumbers() {
        int[] most = {9, 8, 10, 9, 9, 1, 1};
        DebtChoir x = new DebtChoir();
        for (int i = 0; i < 7; i++) {
            for (int wrong : new int[] {-1, most[i] + 1}) {
                int[] v = {1, 1, 1, 1, 1, 1, 1};
                v[i] = wrong;
                is("23 number " + i + " is " + wrong, x.fugue(v[0], v[1], v[2], v[3], v[4], v[5], v[6]), GONE_OUTSIDE);
            }
        }
        is("23 the least", x.fugue(0, 0, 0, 0, 0, 0, 0), 0);
        is("23 the greatest", x.fugue(9, 8, 10, 9, 9, 1, 1), 0);
    }

    private static void yearIs(String sentence, DebtChoir x, int seed, int m, int debts, int free, int off) {
        is("24 " + sentence + ": debts", x.year(seed, m, 0), debts);
        is("24 " + sentence + ": free", x.year(seed, m, 1), free);
        is("24 " + sentence + ": sung off", x.year(seed, m, 2), off);
    }

    /** A to H, of 10 to 80, alti; PIECE p pays p and 1 to one alto. */
    private static DebtChoir eight() {
        DebtChoir x = new DebtChoir();
        for (int singer = 0; singer < 8; singer++) {
            x.singer(singer, 1, 10 * (singer + 1));
        }
        for (int piece = 0; piece < 6; piece++) {
            x.piece(piece, 100, piece + 1, 1);
        }
        return x;
    }

    /** "by x left over by 8: 0, 1, 2 PIECE .. is sung, 3 an evening ends, 4, 5 .. borrows, 6 .. HOARSE, 7 .. takes". */
    private static void yearEachAct() {
        // x is 224: 0, 28 left over by 6: 4; 449: 1, 56: 2; 74: 2, 9: 3; 674: 2, 84: 0; 1049: 1, 131: 5; 824: 0, 103: 1
        int[] seeds = {2, 5, 0, 8, 13, 10};
        int[] pieces = {4, 2, 3, 0, 5, 1};
        for (int i = 0; i < seeds.length; i++) {
            yearIs("piece " + pieces[i], eight(), seeds[i], 1, 360 - pieces[i] - 1, 0, pieces[i] + 1);
        }
        // 299: 3
        yearIs("an evening", eight(), 3, 1, 360 + 36, 0, 0);
        // 524: 4, B, 10 * (1 + 8); 149: 5, C, 10 * (1 + 2)
        yearIs("4: B borrows 90", eight(), 6, 1, 450, 0, 0);
        yearIs("5: C borrows 30", eight(), 1, 1, 390, 0, 0);
        // 374: 6, G
        yearIs("G is hoarse", eight(), 4, 1, 360, 0, 0);
        // 599: 7, C's by B
        yearIs("B takes C's over", eight(), 7, 1, 360, 1, 0);
        // 65624 is 87 and 65537: 7, C's by B; 65549 is 12: 4, B, 10
        yearIs("65537 is left over: 87", eight(), 874, 1, 360, 1, 0);
        yearIs("65537 is left over: 12", eight(), 873, 1, 370, 0, 0);
    }

    /** "each if that can be". */
    private static void yearCanNotBe() {
        DebtChoir x = new DebtChoir();
        for (int seed = 0; seed < 14; seed++) {
            yearIs("nobody is there, seed " + seed, x, seed, 1, 0, 0, 0);
        }
        x = eight();
        x.piece(3, 101, 1, 1);
        yearIs("too few", x, 0, 1, 360, 0, 0);
        x = eight();
        x.leave(1);
        yearIs("B is not there: no loan", x, 6, 1, 340, 0, 0);
        yearIs("B is not there: takes nothing", x, 7, 1, 340, 0, 0);
        x = eight();
        x.leave(2);
        yearIs("C is not there: nothing is taken", x, 7, 1, 330, 0, 0);
        x = eight();
        x.singer(2, 1, 0);
        yearIs("C is free: nothing is taken", x, 7, 1, 330, 1, 0);
        x = eight();
        x.singer(1, 1, 969);
        yearIs("30 and 969", x, 7, 1, 340 + 969, 1, 0);
        x.singer(1, 1, 970);
        yearIs("30 and 970", x, 7, 1, 340 + 970, 0, 0);
        // 20999: 7, A's by A
        yearIs("both are one", eight(), 279, 1, 360, 0, 0);
        x = eight();
        x.singer(1, 1, 909);
        yearIs("909 and 90", x, 6, 1, 340 + 999, 0, 0);
        x.singer(1, 1, 910);
        yearIs("910 and 90", x, 6, 1, 340 + 910, 0, 0);
    }

    /** "borrows ten times (1 and (x by 64 (cut) left over by 9))": 10 to 90, A. */
    private static void yearBorrows() {
        int[] seeds = {1908, 46, 913, 1780, 110, 977, 1844, 174, 1041, 145, 1012, 1879, 17, 884, 1751, 81, 948, 1815};
        for (int i = 0; i < seeds.length; i++) {
            yearIs("A borrows, seed " + seeds[i], eight(), seeds[i], 1, 360 + 10 * (1 + i % 9), 0, 0);
        }
    }

    /** "from all as it is": who is HOARSE, who sang, evenings; the PAD is no matter. */
    private static void yearFromAllAsItIs() {
        DebtChoir x = eight();
        finish(x, "0");
        // H sang, and owes 79; an evening ends: a tenth of 10 to 70
        yearIs("H sang", x, 3, 1, 359 + 28, 0, 0);
        finish(x, "H*");
        yearIs("H sang and is hoarse", x, 3, 1, 359 + 28 + 7, 0, 0);
        finish(x, "A*B*C*D*E*F*");
        yearIs("only G is left", x, 0, 1, 359 - 4, 0, 4);
        finish(x, "G*");
        yearIs("nobody is left", x, 0, 1, 359, 0, 0);
        // 374: 6, G is hoarse no more; 28124: 4, 3515 left over by 8: 3, D borrows 10 * (1 + 439 left over by 9: 7)
        yearIs("G again", x, 4, 2, 359 + 80, 0, 0);
        for (String text : new String[] {"Ax", "!", "H+", "........"}) {
            Due.write(x, text);
            yearIs("whatever is on the pad", x, 0, 1, 359, 0, 0);
        }
    }

    /** "Nothing is DONE in fact." */
    private static void yearNothingIsDone() {
        Twins twins = new Twins(DUE);
        Twins.Made made = () -> {
            DebtChoir x = eight();
            x.image(1);
            Due.write(x, "0A*.1B=C");
            x.done();
            Due.write(x, "0A");
            return x;
        };
        long debts = made.make().year(9999, 99, 0);
        twins.asked("24 debts", made, x -> x.year(9999, 99, 0), debts);
        twins.asked("24 free", made, x -> x.year(3, 1, 1), 1);
        twins.asked("24 an evening", made, x -> x.year(3, 1, 2), 0);
        twins.asked("24 a loan", made, x -> x.year(6, 1, 2), 0);
    }

    /** "a seed (0 to 9999) of m ACTS (1 to 99)". */
    private static void yearNumbers() {
        DebtChoir x = eight();
        // seed 9999: 749999 left over by 65537 is 29092: 4, E, 10 * (1 + 4)
        yearIs("seed 9999", x, 9999, 1, 410, 0, 0);
        yearIs("seed 0", x, 0, 1, 356, 0, 4);
        is("24 seed 10000", x.year(10000, 1, 0), OUTSIDE);
        is("24 seed -1", x.year(-1, 1, 0), OUTSIDE);
        is("24 m 0", x.year(0, 0, 0), OUTSIDE);
        is("24 m 100", x.year(0, 100, 0), OUTSIDE);
        is("24 what 3", x.year(0, 1, 3), OUTSIDE);
        is("24 what -1", x.year(0, 1, -1), OUTSIDE);
        yearIs("without singers", new DebtChoir(), 9999, 99, 0, 0, 0);
    }

    /** The longest, by another program. */
    private static void yearLong() {
        yearIs("seed 9999", eight(), 9999, 99, 3996, 1, 84);
        yearIs("seed 0", eight(), 0, 99, 2530, 2, 89);
        yearIs("seed 5", eight(), 5, 98, 2515, 4, 90);
        yearIs("seed 1234", eight(), 1234, 99, 2316, 1, 105);
        DebtChoir x = new DebtChoir();
        for (int singer = 0; singer < 8; singer++) {
            x.singer(singer, singer % 4, 100 * (singer + 1));
        }
        int[] needs = {1000, 210, 2002, 1111, 0, 1};
        int[] bars = {10, 20, 60, 7, 60, 1};
        int[] pays = {3, 2, 9, 7, 9, 9};
        for (int piece = 0; piece < 6; piece++) {
            x.piece(piece, needs[piece], bars[piece], pays[piece]);
        }
        yearIs("all voices, seed 9999", x, 9999, 99, 7097, 0, 844);
        yearIs("all voices, seed 0", x, 0, 99, 4833, 1, 732);
        yearIs("all voices, seed 7777", x, 7777, 99, 5904, 0, 479);
        yearIs("all voices, seed 42", x, 42, 50, 3834, 1, 2175);
    }

    /** "All but the PAD is kept in an IMAGE (0, 1)"; "It is as it was when it was kept". */
    private static void imagesKept() {
        DebtChoir x = new DebtChoir();
        is("25 of nothing", x.image(0), 1);
        is("26 the other was not", x.restore(1), STATE);
        x.singer(0, 0, 5);
        is("25 of one", x.image(1), 1);
        x.singer(1, 0, 6);
        is("26 of nothing", x.restore(0), 1);
        is("26 nobody", x.told(1), 0);
        is("26 of one", x.restore(1), 1);
        is("26 A", x.told(1), 1);
        is("26 his debt", x.told(11), 5);
        x.singer(0, 3, 9);
        is("26 again", x.restore(1), 1);
        is("26 as it was, not as it became", x.told(11), 5);
        is("26 voice", x.told(10), 0);
        x.singer(7, 0, 7);
        is("25 anew", x.image(0), 1);
        x.leave(0);
        is("26 anew", x.restore(0), 1);
        is("26 A and H", x.told(1), 129);
        is("26 the other stays", x.restore(1), 1);
        is("26 A again", x.told(1), 1);
    }

    private static DebtChoir rich() {
        DebtChoir x = new DebtChoir();
        x.singer(0, 2, 300);
        x.singer(7, 3, 200);
        x.piece(0, 10, 10, 3);
        x.piece(5, 3210, 60, 9);
        finish(x, "..0H*");
        x.seen(9, 3);
        x.seen(2, 2);
        return x;
    }

    /** SINGERS, their VOICES, DEBTS, who is HOARSE, who sang; PIECES; evenings; SIGHTS. */
    private static void imagesOfEverything() {
        for (int k = 0; k < 2; k++) {
            DebtChoir x = rich();
            x.image(k);
            x.leave(7);
            x.singer(0, 0, 1);
            x.singer(1, 1, 2);
            x.piece(0, 0, 0, 0);
            x.piece(5, 0, 0, 0);
            finish(x, "...B*");
            x.forget();
            x.seen(1, 0);
            x.seen(1, 0);
            x.seen(1, 0);
            is("26 restored", x.restore(k), 1);
            DebtChoir y = rich();
            for (int what = 0; what < 160; what++) {
                is("26 told " + what, x.told(what), y.told(what));
            }
            is("26 evenings", x.told(2), 2);
            is("26 sang", x.told(13), 1);
            is("26 hoarse", x.told(82), 1);
            holdsAre("of the sights that were kept", x, 3, 30);
            is("26 a third sight", x.seen(9, 3), 3);
        }
    }

    /** "All but the PAD". */
    private static void imagesWithoutPad() {
        DebtChoir x = rich();
        Due.write(x, "0A");
        x.image(0);
        Due.write(x, "A+1H*.");
        x.restore(0);
        is("26 the pad stays", x.told(0), 6);
        is("26 the pad has no fault", x.fault(), NONE);
        is("26 the pad is done", x.done(), 3);
        is("26 behind it", x.told(11), 363 - 30 + 10);
        x.restore(0);
        is("26 the pad stays empty", x.told(0), 0);
        is("26 as it was", x.told(11), 363 - 30);
    }

    private static void imagesRefused() {
        DebtChoir x = new DebtChoir();
        is("25 image 2", x.image(2), OUTSIDE);
        is("25 image -1", x.image(-1), OUTSIDE);
        is("26 outside ahead of state", x.restore(2), OUTSIDE);
        is("26 -1", x.restore(-1), OUTSIDE);
        is("26 state", x.restore(0), STATE);
        is("26 state, the other", x.restore(1), STATE);
        x.image(1);
        is("26 state still", x.restore(0), STATE);
        is("26 kept", x.restore(1), 1);
    }

    /** Each number from below 0 to above 159, of a choir in which some are. */
    private static void toldEverything() {
        DebtChoir x = rich();
        Due.write(x, "0A");
        int[][] due = new int[161][];
        due[0] = new int[] {2, 129, 2, 2};
        due[10] = new int[] {2, 363 - 30, 0, 1};
        due[80] = new int[] {3, 242, 1, 0};
        due[100] = new int[] {0, 0, 1, 0, 10, 3};
        due[110] = new int[6];
        due[120] = new int[6];
        due[130] = new int[6];
        due[140] = new int[6];
        due[150] = new int[] {3, 2, 1, 0, 60, 9};
        for (int what = -20; what <= 200; what++) {
            int[] row = what < 0 || what > 160 ? null : due[what - what % 10];
            boolean is = row != null && what % 10 < row.length;
            is("27 told(" + what + ")", x.told(what), is ? row[what % 10] : OUTSIDE);
        }
        is("27 least", x.told(Integer.MIN_VALUE), OUTSIDE);
        is("27 most", x.told(Integer.MAX_VALUE), OUTSIDE);
    }

    /** "a SINGER who is there". */
    private static void toldOfNobody() {
        DebtChoir x = new DebtChoir();
        for (int what = 10; what < 100; what++) {
            is("27 told(" + what + ")", x.told(what), OUTSIDE);
        }
        x.singer(0, 1, 1);
        is("27 he is there", x.told(10), 1);
        x.leave(0);
        is("27 he is no more", x.told(10), OUTSIDE);
    }
}
