/**
 * Sentences of 'Terms' 3, and of promises 14 to 18, that name a boundary:
 * each has a test of its own, with the sentence above it.
 */
public final class ProgrammesTest {
    private static final int UNKNOWN = -1, OUTSIDE = -2, NONE = -6;
    private static final Due DUE = new Due();

    public static void main(String[] args) {
        nightsOfTheFree();
        nightsTillNothingIsLeft();
        nightsOncePerPiece();
        nightsTenth();
        nightsAboveTheMost();
        nightsOfHisVoice();
        nightsWhateverOthersCan();
        nightsFirstRow();
        nightsOfAllPieces();
        nightsPaidNothing();
        nightsRefused();
        programmeBars();
        programmeLeastBits();
        programmePaysNothing();
        programmeGreatest();
        programmeRefused();
        ruinNobody();
        ruinFewest();
        ruinWhoCanNot();
        ruinOfEachVoice();
        ruinRefused();
        seatsOfEachNumber();
        seatsOfTheSame();
        seatsOfLeastAndMost();
        seatsRefused();
        ringsOfOneself();
        ringsOfSeveral();
        ringsInRounds();
        oneAfterTheOther();
        ringsRefused();
        DUE.end();
    }

    private static void is(String what, long got, long want) {
        DUE.is(what, got, want);
    }

    /** A alone, a tenor, and PIECES of one tenor, one bar or more, that pay so much. */
    private static DebtChoir tenor(int debt, int... pays) {
        DebtChoir x = new DebtChoir();
        x.singer(0, 2, debt);
        for (int piece = 0; piece < pays.length; piece++) {
            int pay = 9;
            while (pay > 1 && (pays[piece] % pay != 0 || pays[piece] / pay > 60)) {
                pay--;
            }
            is("a piece that pays " + pays[piece], x.piece(piece, 10, pays[piece] / pay, pay), 0);
        }
        return x;
    }

    private static void nightsAre(String sentence, DebtChoir x, int many, int first) {
        is(sentence + ": how many", x.nights(0, 0), many);
        is(sentence + ": the first piece", x.nights(0, 1), first);
    }

    private static void finish(DebtChoir x, String text) {
        Due.write(x, text);
        is("done " + text, x.done() > 0 ? 1 : 0, 1);
    }

    /** "(0: he is); .. (NONE: 0 evenings)". */
    private static void nightsOfTheFree() {
        nightsAre("14 free, without pieces", tenor(0), 0, NONE);
        nightsAre("14 free, with pieces", tenor(0, 9, 9, 9, 9, 9, 9), 0, NONE);
        nightsAre("14 not free, without pieces", tenor(1), NONE, NONE);
        DebtChoir x = tenor(5, 9);
        nightsAre("14 not free", x, 1, 0);
        finish(x, "A*Ax");
        nightsAre("14 let go", x, 0, NONE);
    }

    /** "the fewest evenings till he is FREE". */
    private static void nightsTillNothingIsLeft() {
        nightsAre("14 539 of 540", tenor(539, 540), 1, 0);
        nightsAre("14 540 of 540", tenor(540, 540), 1, 0);
        nightsAre("14 541 of 540", tenor(541, 540), NONE, NONE);
        nightsAre("14 1 of 1", tenor(1, 1), 1, 0);
        nightsAre("14 999", tenor(999, 540, 504), 2, 0);
        // 504 first: 495 and 49 is 544; 540 first: 459 and 45 is 504
        nightsAre("14 999, the other first", tenor(999, 504, 540), 2, 1);
        nightsAre("14 999, one too few", tenor(999, 540, 495), NONE, NONE);
    }

    /** "each PIECE once at most". */
    private static void nightsOncePerPiece() {
        nightsAre("14 the same again", tenor(2, 1), NONE, NONE);
        nightsAre("14 another that pays as much", tenor(2, 1, 1), 2, 0);
        // 1 first: 540 and 54; 540 first: 1
        nightsAre("14 541 and two pieces", tenor(541, 1, 540), 2, 1);
    }

    /** "behind each evening he owes a tenth more, cut, of what is left". */
    private static void nightsTenth() {
        nightsAre("14 9 are left, 9 are owed", tenor(19, 10, 9), 2, 0);
        nightsAre("14 10 are left, 11 are owed", tenor(20, 10, 10), NONE, NONE);
        nightsAre("14 10 are left, 11 are paid", tenor(20, 10, 11), 2, 0);
        // 10: 19, 20; 20: 0 and 20: 9: 0
        nightsAre("14 19 are left, 20 are owed", tenor(29, 10, 20), 2, 0);
        // 10: 20, 22: 2 are left; 20: 10, 11: 1 is left
        nightsAre("14 20 are left, 22 are owed", tenor(30, 10, 20), NONE, NONE);
        // 10: 11, 12; 11: 1; and 1
        nightsAre("14 in three", tenor(21, 10, 11, 1), 3, 0);
    }

    /**
     * "(above 999, too)": a row in which he comes above 999 is never one of the
     * fewest evenings, as without that evening he would owe less. So it is only
     * seen that such rows do no harm.
     */
    private static void nightsAboveTheMost() {
        // 1 first: 998, 1097: 557, 612: 108, 118; 540 first: 459, 504: 0
        nightsAre("14 1097", tenor(999, 1, 540, 504), 2, 1);
        // 540: 459, 504; 495: 9; 7: 2; 2: 0
        nightsAre("14 the small ones last", tenor(999, 2, 7, 540, 495), 4, 2);
    }

    /** "that needs his VOICE". */
    private static void nightsOfHisVoice() {
        int[] needs = {1000, 100, 10, 1};
        for (int voice = 0; voice < 4; voice++) {
            DebtChoir x = new DebtChoir();
            x.singer(0, voice, 5);
            for (int piece = 0; piece < 4; piece++) {
                x.piece(piece, needs[piece], 60, 9);
            }
            nightsAre("14 the piece of his voice, " + voice, x, 1, voice);
            x.piece(voice, 3333 - 3 * needs[voice], 60, 9);
            nightsAre("14 of all voices but his, " + voice, x, NONE, NONE);
            x.piece(5, 3 * needs[voice], 60, 9);
            nightsAre("14 that needs three of his, " + voice, x, 1, 5);
        }
    }

    /** "(whether others can is no matter; HOARSE or not)"; "A SINGER sings from now on". */
    private static void nightsWhateverOthersCan() {
        // 40: 10, 11; 11 first: 39, 42
        DebtChoir x = tenor(50, 11, 40);
        x.piece(1, 3333, 40, 1);
        is("14 it can not be sung", x.may() & 2, 0);
        nightsAre("14 others can not", x, 2, 1);
        finish(x, "A*");
        nightsAre("14 hoarse", x, 2, 1);
        finish(x, "A*0A+1");
        is("14 he sang", x.told(13), 1);
        nightsAre("14 who sang", x, 2, 1);
        Due.write(x, "Ax");
        nightsAre("14 whatever is on the pad", x, 2, 1);
        Due.write(x, "!");
        nightsAre("14 a fault or not", x, 2, 1);
    }

    /** "the first PIECE of the first such row (the least PIECE first, and so on)". */
    private static void nightsFirstRow() {
        nightsAre("14 one night, the least that is enough", tenor(5, 1, 5, 6), 1, 1);
        nightsAre("14 two nights, the least first", tenor(6, 1, 5, 5), 2, 0);
        nightsAre("14 two nights, without the least", tenor(10, 1, 5, 5), 2, 1);
        nightsAre("14 the last two", tenor(18, 1, 1, 1, 1, 9, 9), 2, 4);
        // 90: 10, 11; 11: 0 in two; not 11 first: 89, 97
        nightsAre("14 not the least first", tenor(100, 11, 90), 2, 1);
        nightsAre("14 fewest ahead of least", tenor(9, 1, 1, 1, 1, 1, 9), 1, 5);
    }

    private static void nightsOfAllPieces() {
        nightsAre("14 six", tenor(6, 1, 1, 1, 1, 1, 1), 6, 0);
        nightsAre("14 five of six", tenor(5, 1, 1, 1, 1, 1, 1), 5, 0);
        nightsAre("14 more than six", tenor(7, 1, 1, 1, 1, 1, 1), NONE, NONE);
        // 36, 39; 30, 33; 24, 26; 17, 18; 9
        nightsAre("14 six, big", tenor(45, 9, 9, 9, 9, 9, 9), 6, 0);
    }

    /** "is paid so": PIECES without BARS or PAY free nobody. */
    private static void nightsPaidNothing() {
        DebtChoir x = tenor(1);
        x.piece(0, 10, 60, 0);
        x.piece(1, 10, 0, 9);
        nightsAre("14 paid nothing", x, NONE, NONE);
        x.piece(2, 10, 1, 1);
        nightsAre("14 paid 1", x, 1, 2);
        x.piece(2, 0, 1, 1);
        nightsAre("14 a piece that needs nobody", x, NONE, NONE);
    }

    private static void nightsRefused() {
        DebtChoir x = tenor(5, 5);
        x.singer(7, 2, 4);
        is("14 H", x.nights(7, 0), 1);
        is("14 singer 8", x.nights(8, 0), UNKNOWN);
        is("14 singer -1", x.nights(-1, 0), UNKNOWN);
        is("14 not there", x.nights(1, 0), UNKNOWN);
        is("14 unknown ahead of outside", x.nights(1, 2), UNKNOWN);
        is("14 what 2", x.nights(0, 2), OUTSIDE);
        is("14 what -1", x.nights(0, -1), OUTSIDE);
        is("14 without singers", new DebtChoir().nights(0, 0), UNKNOWN);
    }

    private static void programmeIs(String sentence, DebtChoir x, int v, int much, int which) {
        is(sentence + ", " + v + " bars: how much", x.programme(v, 0), much);
        is(sentence + ", " + v + " bars: which", x.programme(v, 1), which);
    }

    /** "of v BARS (0 to 99) together at the most, that pays most (BARS times PAY, times all whom it needs)". */
    private static void programmeBars() {
        DebtChoir x = new DebtChoir();
        x.piece(0, 1000, 60, 9);
        x.piece(5, 1, 39, 1);
        programmeIs("15 both", x, 99, 579, 33);
        programmeIs("15 one bar too few", x, 98, 540, 1);
        programmeIs("15 the first", x, 60, 540, 1);
        programmeIs("15 the other", x, 59, 39, 32);
        programmeIs("15 the other", x, 39, 39, 32);
        programmeIs("15 neither", x, 38, 0, 0);
        programmeIs("15 no bars", x, 0, 0, 0);
        x.piece(5, 1, 40, 1);
        programmeIs("15 100 bars are too many", x, 99, 540, 1);
        x.piece(4, 1111, 40, 4);
        programmeIs("15 whom it needs", x, 60, 640, 16);
        x.piece(4, 3, 40, 4);
        programmeIs("15 whom it needs: three basses", x, 60, 540, 1);
        x.piece(4, 12, 40, 4);
        programmeIs("15 whom it needs: one and two", x, 40, 480, 16);
    }

    /** "which, least as bits". */
    private static void programmeLeastBits() {
        DebtChoir x = new DebtChoir();
        x.piece(0, 1000, 5, 3);
        x.piece(1, 100, 5, 3);
        x.piece(2, 1, 10, 3);
        programmeIs("15 the two ahead of the third", x, 10, 30, 3);
        programmeIs("15 of two the least", x, 9, 15, 1);
        programmeIs("15 one of two, and the third", x, 15, 45, 5);
        x.piece(0, 1000, 10, 3);
        x.piece(2, 1, 5, 3);
        programmeIs("15 one ahead of the two", x, 10, 30, 1);
    }

    /** PIECES that pay nothing are in no least set: BARS, PAY or all whom it needs are 0. */
    private static void programmePaysNothing() {
        DebtChoir x = new DebtChoir();
        programmeIs("15 all 0", x, 0, 0, 0);
        programmeIs("15 all 0", x, 99, 0, 0);
        x.piece(0, 0, 1, 9);
        x.piece(1, 3333, 0, 9);
        x.piece(2, 3333, 1, 0);
        programmeIs("15 none pays", x, 99, 0, 0);
        x.piece(3, 1, 1, 1);
        programmeIs("15 one pays", x, 99, 1, 8);
        programmeIs("15 one pays, and fits", x, 1, 1, 8);
        programmeIs("15 one pays, and does not fit", x, 0, 0, 0);
    }

    private static void programmeGreatest() {
        DebtChoir x = new DebtChoir();
        for (int piece = 0; piece < 6; piece++) {
            x.piece(piece, 3333, 60, 9);
        }
        programmeIs("15 one of six", x, 99, 6480, 1);
        x.piece(3, 3333, 39, 9);
        programmeIs("15 99 bars", x, 99, 99 * 9 * 12, 9);
        for (int piece = 0; piece < 6; piece++) {
            x.piece(piece, 3333, 16, 9);
        }
        programmeIs("15 all six", x, 96, 96 * 9 * 12, 63);
        programmeIs("15 five of six", x, 95, 80 * 9 * 12, 31);
    }

    private static void programmeRefused() {
        DebtChoir x = new DebtChoir();
        is("15 v 100", x.programme(100, 0), OUTSIDE);
        is("15 v -1", x.programme(-1, 0), OUTSIDE);
        is("15 what 2", x.programme(0, 2), OUTSIDE);
        is("15 what -1", x.programme(0, -1), OUTSIDE);
    }

    private static void ruinIs(String sentence, DebtChoir x, int needs, int many, int who) {
        x.piece(4, needs, 1, 1);
        is("16 " + sentence + ": how many", x.ruin(4, 0), many);
        is("16 " + sentence + ": who", x.ruin(4, 1), who);
    }

    /** "the fewest": none, if the PIECE can be sung. */
    private static void ruinNobody() {
        DebtChoir x = new DebtChoir();
        ruinIs("without singers, nobody", x, 0, 0, 0);
        ruinIs("without singers, one", x, 1, NONE, NONE);
        x.singer(0, 3, 1);
        x.singer(1, 3, 0);
        ruinIs("nobody", x, 0, 0, 0);
        ruinIs("who owes 1", x, 1, 0, 0);
        ruinIs("and another", x, 2, 1, 2);
        ruinIs("and a third", x, 3, NONE, NONE);
    }

    /** "who are FREE now .. must come into DEBT": so many as are missing, the least SINGERS. */
    private static void ruinFewest() {
        DebtChoir x = new DebtChoir();
        for (int singer = 0; singer < 6; singer++) {
            x.singer(singer, 0, singer == 2 ? 9 : 0);
        }
        ruinIs("one is in debt", x, 1000, 0, 0);
        ruinIs("the least", x, 2000, 1, 1);
        ruinIs("the two least", x, 3000, 2, 3);
        x.singer(2, 0, 0);
        ruinIs("the three least", x, 3000, 3, 7);
        x.singer(0, 0, 1);
        ruinIs("not the first", x, 3000, 2, 6);
        x.leave(1);
        ruinIs("not who is no more", x, 3000, 2, 4 + 8);
        x.leave(2);
        x.leave(3);
        x.leave(4);
        ruinIs("exactly so many", x, 2000, 1, 32);
        ruinIs("one too few", x, 3000, NONE, NONE);
    }

    /** "not HOARSE, and sang nothing this evening". */
    private static void ruinWhoCanNot() {
        DebtChoir x = new DebtChoir();
        for (int singer = 0; singer < 4; singer++) {
            x.singer(singer, 1, singer == 0 ? 5 : 0);
        }
        x.piece(0, 100, 1, 5);
        Due.write(x, "A*B*");
        ruinIs("the pad is not done", x, 200, 1, 2);
        finish(x, "B*");
        ruinIs("not who is hoarse", x, 200, 1, 4);
        ruinIs("not who is hoarse: two", x, 300, 2, 4 + 8);
        finish(x, "A*");
        ruinIs("who owes and is hoarse does not sing", x, 100, 1, 4);
        ruinIs("too few", x, 300, NONE, NONE);
        finish(x, "A*0");
        is("he sang himself free", x.told(11), 0);
        ruinIs("not who sang and is free", x, 100, 1, 4);
        ruinIs("not who sang, too few", x, 300, NONE, NONE);
        finish(x, "A+1");
        ruinIs("who sang and owes does not sing", x, 200, 2, 4 + 8);
        finish(x, ".B*Ax");
        ruinIs("all may", x, 300, 3, 7);
    }

    /** "the least SINGERS of each VOICE, as bits; NONE: there are too few". */
    private static void ruinOfEachVoice() {
        DebtChoir x = new DebtChoir();
        for (int singer = 0; singer < 8; singer++) {
            x.singer(singer, singer % 4, 0);
        }
        ruinIs("one of each", x, 1111, 4, 15);
        ruinIs("two of each", x, 2222, 8, 255);
        ruinIs("two, one, two, one", x, 2121, 6, 1 + 16 + 2 + 4 + 64 + 8);
        int[] needs = {3000, 300, 30, 3};
        for (int voice = 0; voice < 4; voice++) {
            ruinIs("three of " + voice, x, needs[voice], NONE, NONE);
            ruinIs("one of each, three of " + voice, x, 1111 + needs[voice] / 3 * 2, NONE, NONE);
        }
        x.singer(1, 1, 50);
        ruinIs("the alto owes", x, 1111, 3, 1 + 4 + 8);
    }

    private static void ruinRefused() {
        DebtChoir x = new DebtChoir();
        is("16 piece 5", x.ruin(5, 1), 0);
        is("16 piece 6", x.ruin(6, 0), UNKNOWN);
        is("16 piece -1", x.ruin(-1, 0), UNKNOWN);
        is("16 unknown ahead of outside", x.ruin(6, 2), UNKNOWN);
        is("16 what 2", x.ruin(0, 2), OUTSIDE);
        is("16 what -1", x.ruin(0, -1), OUTSIDE);
    }

    private static void seatsAre(int bids, int[] who, int[] price) {
        DebtChoir x = new DebtChoir();
        for (int k = 0; k <= 6; k++) {
            is("17 who has " + k + " seats by " + bids, x.seats(k, bids, 0), who[k]);
            is("17 for how much, " + k + " seats by " + bids, x.seats(k, bids, 1), price[k]);
        }
    }

    /** "k seats (0 to 6) .. each for the highest bid that gets none (0, if all do)". */
    private static void seatsOfEachNumber() {
        seatsAre(654321, new int[] {0, 1, 3, 7, 15, 31, 63}, new int[] {6, 5, 4, 3, 2, 1, 0});
        seatsAre(123456, new int[] {0, 32, 48, 56, 60, 62, 63}, new int[] {6, 5, 4, 3, 2, 1, 0});
        seatsAre(918273, new int[] {0, 1, 5, 21, 53, 61, 63}, new int[] {9, 8, 7, 3, 2, 1, 0});
    }

    /** "of the same the least creditor". */
    private static void seatsOfTheSame() {
        seatsAre(555555, new int[] {0, 1, 3, 7, 15, 31, 63}, new int[] {5, 5, 5, 5, 5, 5, 0});
        seatsAre(557755, new int[] {0, 4, 12, 13, 15, 31, 63}, new int[] {7, 7, 5, 5, 5, 5, 0});
        seatsAre(121212, new int[] {0, 2, 10, 42, 43, 47, 63}, new int[] {2, 2, 2, 1, 1, 1, 0});
    }

    /** "by six digits, creditor 0's the highest"; "bids 0 to 999999". */
    private static void seatsOfLeastAndMost() {
        seatsAre(0, new int[] {0, 1, 3, 7, 15, 31, 63}, new int[] {0, 0, 0, 0, 0, 0, 0});
        seatsAre(999999, new int[] {0, 1, 3, 7, 15, 31, 63}, new int[] {9, 9, 9, 9, 9, 9, 0});
        seatsAre(1, new int[] {0, 32, 33, 35, 39, 47, 63}, new int[] {1, 0, 0, 0, 0, 0, 0});
        seatsAre(900000, new int[] {0, 1, 3, 7, 15, 31, 63}, new int[] {9, 0, 0, 0, 0, 0, 0});
        seatsAre(99999, new int[] {0, 2, 6, 14, 30, 62, 63}, new int[] {9, 9, 9, 9, 9, 0, 0});
    }

    private static void seatsRefused() {
        DebtChoir x = new DebtChoir();
        is("17 k 7", x.seats(7, 0, 0), OUTSIDE);
        is("17 k -1", x.seats(-1, 0, 0), OUTSIDE);
        is("17 bids 1000000", x.seats(0, 1000000, 0), OUTSIDE);
        is("17 bids -1", x.seats(0, -1, 0), OUTSIDE);
        is("17 what 2", x.seats(0, 0, 2), OUTSIDE);
        is("17 what -1", x.seats(0, 0, -1), OUTSIDE);
    }

    private static void ringsAre(String sentence, int[] ranks, int parts, int own) {
        DebtChoir x = new DebtChoir();
        String what = "18 " + sentence;
        is(what + ": the parts", x.rings(ranks[0], ranks[1], ranks[2], ranks[3], 0), parts);
        is(what + ": how many", x.rings(ranks[0], ranks[1], ranks[2], ranks[3], 1), own);
    }

    /** "who stand in a ring so get these parts": who points to himself, too. */
    private static void ringsOfOneself() {
        ringsAre("each his own", new int[] {123, 1023, 2013, 3012}, 123, 4);
        ringsAre("each his own, the others otherwise", new int[] {321, 1320, 2310, 3210}, 123, 4);
        ringsAre("two, and two that swap", new int[] {123, 2013, 1023, 3012}, 213, 2);
    }

    private static void ringsOfSeveral() {
        ringsAre("four", new int[] {1023, 2013, 3012, 123}, 1230, 0);
        ringsAre("four, the other way", new int[] {3012, 123, 1023, 2013}, 3012, 0);
        ringsAre("three, and one who keeps", new int[] {1023, 2013, 123, 3012}, 1203, 1);
        ringsAre("three, and one who would not", new int[] {1023, 2013, 123, 123}, 1203, 1);
        ringsAre("three without 0", new int[] {123, 2013, 3012, 1023}, 231, 1);
        ringsAre("two and two", new int[] {1023, 123, 3012, 2013}, 1032, 0);
        ringsAre("two and two, across", new int[] {3012, 2013, 1023, 123}, 3210, 0);
    }

    /** "who has the part that is his best of those that are left; .. and so on". */
    private static void ringsInRounds() {
        ringsAre("one a round, from 0", new int[] {123, 123, 123, 123}, 123, 4);
        ringsAre("one a round, from 3", new int[] {3210, 3210, 3210, 3210}, 123, 4);
        ringsAre("who points into a ring is left", new int[] {1023, 123, 123, 2013}, 1023, 2);
        ringsAre("his third is the best that is left", new int[] {1023, 123, 132, 2013}, 1032, 0);
        ringsAre("his last is the best that is left", new int[] {1023, 123, 132, 123}, 1032, 0);
        ringsAre("0 is not in the first ring", new int[] {1203, 1023, 123, 3012}, 2103, 2);
        ringsAre("3 is not in the first ring", new int[] {123, 3012, 2013, 2103}, 321, 2);
        ringsAre("two rounds, three are left", new int[] {123, 231, 132, 2013}, 213, 2);
    }

    /** The same object, asked one thing after the other: nothing is left of what was asked ahead. */
    private static void oneAfterTheOther() {
        DebtChoir x = tenor(541, 1, 540);
        x.singer(1, 2, 0);
        x.singer(2, 2, 999);
        x.singer(3, 3, 1);
        int[] many = {2, 0, NONE, NONE};
        int[] first = {1, NONE, NONE, NONE};
        for (int i = 0; i < 16; i++) {
            int singer = (i * 7 + i / 4) % 4;
            is("14 nights of " + singer, x.nights(singer, 0), many[singer]);
            is("14 first of " + singer, x.nights(singer, 1), first[singer]);
        }
        is("18 a ring of four", x.rings(1023, 2013, 3012, 123, 0), 1230);
        is("18 each his own", x.rings(123, 1023, 2013, 3012, 0), 123);
        is("18 each his own: how many", x.rings(123, 1023, 2013, 3012, 1), 4);
        is("18 a ring of four again: how many", x.rings(1023, 2013, 3012, 123, 1), 0);
        is("17 all seats", x.seats(6, 123456, 0), 63);
        is("17 no seats", x.seats(0, 123456, 0), 0);
        is("15 much", x.programme(99, 0), 541);
        is("15 nothing", x.programme(0, 0), 0);
    }

    private static void ringsRefused() {
        DebtChoir x = new DebtChoir();
        is("18 the least", x.rings(123, 123, 123, 123, 1), 4);
        is("18 the greatest", x.rings(3210, 3210, 3210, 3210, 1), 4);
        is("18 122", x.rings(122, 123, 123, 123, 0), OUTSIDE);
        is("18 124", x.rings(123, 124, 123, 123, 0), OUTSIDE);
        is("18 3211", x.rings(123, 123, 3211, 123, 0), OUTSIDE);
        is("18 10123", x.rings(123, 123, 123, 10123, 0), OUTSIDE);
        is("18 -123", x.rings(-123, 123, 123, 123, 0), OUTSIDE);
        is("18 what 2", x.rings(123, 123, 123, 123, 2), OUTSIDE);
        is("18 what -1", x.rings(123, 123, 123, 123, -1), OUTSIDE);
    }
}
