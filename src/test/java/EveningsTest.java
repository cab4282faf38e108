/**
 * Sentences of 'Terms' 1 and 2, and of promises 1 to 13, that name a boundary:
 * each has a test of its own, with the sentence above it.
 */
public final class EveningsTest {
    private static final int UNKNOWN = -1, OUTSIDE = -2, STATE = -3, FULL = -4, NO = -5, NONE = -6;
    private static final Due DUE = new Due();

    public static void main(String[] args) {
        calls();
        singers();
        whoSings();
        pieces();
        signs();
        sungBy();
        sungOrder();
        sungOff();
        needsNobody();
        borrows();
        hoarse();
        takesOver();
        letGo();
        tenth();
        whoOwesATenth();
        faultPlaces();
        faultWhileSaid();
        faultOfFullPads();
        leastReason();
        reasonThree();
        reasonFour();
        lastEvening();
        lastEveningOfAYear();
        judgedActs();
        judgedPieces();
        behind();
        emptyPad();
        owed();
        freed();
        freedTogether();
        done();
        may();
        anew();
        leaves();
        saidAndWiped();
        DUE.end();
    }

    private static void is(String what, long got, long want) {
        DUE.is(what, got, want);
    }

    /** SINGERS from A on, all of this VOICE, with these DEBTS. */
    private static DebtChoir all(int voice, int... debts) {
        DebtChoir x = new DebtChoir();
        for (int singer = 0; singer < debts.length; singer++) {
            x.singer(singer, voice, debts[singer]);
        }
        return x;
    }

    /** What they owe behind this text, from A on. */
    private static void owe(String sentence, DebtChoir x, String text, int... debts) {
        Due.write(x, text);
        for (int singer = 0; singer < debts.length; singer++) {
            is(sentence + ": \"" + text + "\", " + (char) ('A' + singer), x.behind(singer, 0), debts[singer]);
        }
    }

    private static void judged(String sentence, DebtChoir x, String text, int act, int why) {
        Due.write(x, text);
        is(sentence + ": the act of \"" + text + "\"", x.judge(0), act);
        is(sentence + ": why of \"" + text + "\"", x.judge(1), why);
    }

    private static void doneAs(String sentence, DebtChoir x, String text, int acts) {
        Due.write(x, text);
        is(sentence + ": done \"" + text + "\"", x.done(), acts);
    }

    /** "An object is used for at most 512 calls after it has been made." */
    private static void calls() {
        DebtChoir x = all(0, 5);
        for (int call = 2; call <= 511; call++) {
            is("call " + call, x.say('.'), call <= 61 ? call - 1 : FULL);
        }
        is("call 512", x.judge(2), 0);
    }

    /** "SINGERS 0 to 7 (A to H), some of whom there are (none at first)", VOICE 0 to 3, DEBT 0 to 999. */
    private static void singers() {
        DebtChoir x = new DebtChoir();
        is("1 none at first", x.told(1), 0);
        is("2 singer 7, voice 3, debt 999", x.singer(7, 3, 999), 1);
        is("2 singer 0, voice 0, debt 0", x.singer(0, 0, 0), 2);
        is("2 singer 8", x.singer(8, 0, 0), UNKNOWN);
        is("2 singer -1", x.singer(-1, 0, 0), UNKNOWN);
        is("2 voice 4", x.singer(1, 4, 0), OUTSIDE);
        is("2 voice -1", x.singer(1, -1, 0), OUTSIDE);
        is("2 debt 1000", x.singer(1, 0, 1000), OUTSIDE);
        is("2 debt -1", x.singer(1, 0, -1), OUTSIDE);
        is("sets are bits", x.told(1), 1 + 128);
        int[] told = {0, 0, 0, 0};
        for (int detail = 0; detail < 4; detail++) {
            is("2 A is 0: " + detail, x.told(10 + detail), told[detail]);
        }
        is("2 H's voice", x.told(80), 3);
        is("2 H's debt", x.told(81), 999);
        is("2 not hoarse at first", x.told(82), 0);
        is("2 sang nothing at first", x.told(83), 0);
        for (int singer = 1; singer < 7; singer++) {
            is("2 how many are", x.singer(singer, singer % 4, singer), singer + 2);
        }
        is("2 all are", x.told(1), 255);
        is("3 seven are left", x.leave(7), 7);
        is("3 six are left", x.leave(0), 6);
        is("3 1 to 6", x.told(1), 126);
    }

    /** "Who has a DEBT sings; who has none is FREE." */
    private static void whoSings() {
        DebtChoir x = all(0, 0);
        x.piece(0, 1000, 1, 1);
        judged("debt 0", x, "0", 0, 4);
        is("debt 0: may not", x.may(), 62);
        is("debt 0: is free", x.nights(0, 0), 0);
        x.singer(0, 0, 1);
        judged("debt 1", x, "0", NONE, NONE);
        is("debt 1: may", x.may(), 63);
        is("debt 1: is not free", x.nights(0, 0), 1);
    }

    /** "PIECES 0 to 5: .. (four numbers 0 to 3), BARS (0 to 60), PAY (0 to 9) .. (all 0 at first)". */
    private static void pieces() {
        DebtChoir x = new DebtChoir();
        for (int piece = 0; piece < 6; piece++) {
            for (int detail = 0; detail < 6; detail++) {
                is("1 all 0 at first", x.told(100 + 10 * piece + detail), 0);
            }
        }
        is("4 the greatest", x.piece(5, 3333, 60, 9), 0);
        is("4 the least again", x.piece(5, 0, 0, 0), 60);
        is("4 bars 0 it had", x.piece(5, 3210, 59, 8), 0);
        is("4 bars 59 it had", x.piece(5, 123, 60, 9), 59);
        int[] told = {0, 1, 2, 3, 60, 9};
        for (int detail = 0; detail < 6; detail++) {
            is("4 voice 0's the highest, " + detail, x.told(150 + detail), told[detail]);
            is("4 piece 4 is another, " + detail, x.told(140 + detail), 0);
        }
        is("4 piece 0", x.piece(0, 1, 1, 1), 0);
        is("4 piece 6", x.piece(6, 1, 1, 1), UNKNOWN);
        is("4 piece -1", x.piece(-1, 1, 1, 1), UNKNOWN);
        is("4 needs 3334", x.piece(0, 3334, 1, 1), OUTSIDE);
        is("4 needs -1", x.piece(0, -1, 1, 1), OUTSIDE);
        is("4 bars 61", x.piece(0, 1, 61, 1), OUTSIDE);
        is("4 bars -1", x.piece(0, 1, -1, 1), OUTSIDE);
        is("4 pay 10", x.piece(0, 1, 1, 10), OUTSIDE);
        is("4 pay -1", x.piece(0, 1, 1, -1), OUTSIDE);
    }

    /** "a text on a PAD of up to 60 signs (codes 33 to 126)". */
    private static void signs() {
        DebtChoir x = new DebtChoir();
        for (int sign = -2; sign <= 140; sign++) {
            x.wipe();
            is("5 sign " + sign, x.say(sign), sign < 33 || sign > 126 ? OUTSIDE : 1);
        }
        x = new DebtChoir();
        for (int i = 1; i <= 60; i++) {
            is("5 sign " + i + " of 60", x.say('.'), i);
        }
        is("5 sign 61", x.say('.'), FULL);
        is("5 outside ahead of full", x.say(127), OUTSIDE);
        is("5 still 60", x.told(0), 60);
        is("5 sixty evenings", x.done(), 60);
        is("5 there is room again", x.say('.'), 1);
    }

    /** "of those that have a DEBT and are not HOARSE, and sang nothing this evening". */
    private static void sungBy() {
        DebtChoir x = all(2, 10, 20, 30, 40);
        x.singer(4, 1, 99);
        x.piece(0, 10, 2, 2);
        x.piece(1, 30, 0, 9);
        owe("the one who may", x, "D*Cx0", 10, 16, 0, 40, 99);
        owe("the one who sang does not", x, "00", 10, 20, 26, 36, 99);
        owe("each once", x, "0000", 6, 16, 26, 36, 99);
        judged("the fifth time", x, "00000", 4, 4);
        judged("three of four", x, "1", NONE, NONE);
        judged("one is left", x, "11", 1, 4);
        judged("one is left for the other", x, "10", NONE, NONE);
        judged("one hoarse", x, "A*1", NONE, NONE);
        judged("two hoarse", x, "A*B*1", 2, 4);
        judged("two hoarse, one not any more", x, "A*B*A*1", NONE, NONE);
        judged("who borrows after he sang did sing", x, "1C+1D+11", 3, 4);
        judged("who comes into debt may", x, "AxBxA+11", NONE, NONE);
        judged("an evening ended", x, "1.1", NONE, NONE);
    }

    /** "most DEBT first, of several the least SINGER". */
    private static void sungOrder() {
        DebtChoir x = all(3, 5, 7, 7, 6, 7);
        x.piece(0, 1, 1, 1);
        x.piece(1, 2, 1, 2);
        owe("the least of the most", x, "0", 5, 6, 7, 6, 7);
        owe("then the next least", x, "00", 5, 6, 6, 6, 7);
        owe("two at once", x, "1", 5, 5, 5, 6, 7);
        owe("two, then two", x, "11", 5, 5, 5, 4, 5);
        owe("all in turn", x, "00000", 4, 6, 6, 5, 6);
        owe("the order is of now, not of the number", x, "D+10", 5, 7, 7, 15, 7);
        x = all(3, 998, 999);
        x.piece(0, 1, 1, 1);
        owe("999 ahead of 998", x, "0", 998, 998);
        owe("a tenth more, and the other is ahead", x, "0.0", 998, 998);
    }

    /** "each has so much less DEBT as BARS times PAY, 0 at least". */
    private static void sungOff() {
        DebtChoir x = all(0, 541, 540, 539, 1);
        x.piece(0, 1000, 60, 9);
        x.piece(1, 3000, 60, 9);
        x.piece(2, 1000, 0, 9);
        x.piece(3, 1000, 60, 0);
        owe("one more than it pays", x, "0", 1, 540, 539, 1);
        owe("as much", x, "00", 1, 0, 539, 1);
        owe("one less", x, "1", 1, 0, 0, 1);
        is("540 of 541, of 540, of 539", x.owed(1), 540 + 540 + 539);
        owe("the last one", x, "10", 1, 0, 0, 0);
        is("and 1", x.owed(1), 540 + 540 + 539 + 1);
        owe("no bars", x, "2", 541, 540, 539, 1);
        is("no bars: he sang", x.behind(0, 2), 1);
        is("no bars: nothing was sung off", x.owed(1), 0);
        owe("no pay", x, "3", 541, 540, 539, 1);
        is("no pay: he sang", x.behind(0, 2), 1);
        is("no pay: nothing was sung off", x.owed(1), 0);
    }

    /** PIECES that need nobody can be sung always, and by nobody. */
    private static void needsNobody() {
        DebtChoir x = new DebtChoir();
        x.piece(2, 0, 60, 9);
        judged("without singers", x, "012345", NONE, NONE);
        is("without singers: six", x.judge(2), 6);
        is("without singers: may", x.may(), 63);
        is("without singers: nothing is owed", x.owed(0), 0);
        is("without singers: nothing is sung off", x.owed(1), 0);
        x = all(0, 90);
        x.piece(2, 0, 60, 9);
        owe("nobody sings it", x, "22", 90);
        is("nobody sang", x.behind(0, 2), 0);
        is("but it was sung", x.judge(2), 2);
        owe("so he owes a tenth more", x, "2.", 99);
    }

    /** "+ and a digit 1 to 9 (he borrows ten times that, 999 at most)". */
    private static void borrows() {
        DebtChoir x = all(1, 0, 989, 909, 990, 910);
        owe("one", x, "A+1", 10, 989);
        owe("nine", x, "A+9", 90, 989);
        owe("989 and 10", x, "B+1", 0, 999);
        owe("909 and 90", x, "C+9", 0, 989, 999);
        judged("989 and 20", x, "B+2", 0, 3);
        judged("990 and 10", x, "D+1", 0, 3);
        judged("910 and 90", x, "E+9", 0, 3);
        judged("999 and 10", x, "B+1B+1", 1, 3);
        doneAs("hoarse or not", x, "A*A+3", 2);
        is("hoarse or not", x.told(11), 30);
    }

    /** "* (he is HOARSE, or is not any more)". */
    private static void hoarse() {
        DebtChoir x = all(1, 0, 5);
        Due.write(x, "A*");
        is("who is free may be hoarse", x.behind(0, 1), 1);
        is("another is not", x.behind(1, 1), 0);
        Due.write(x, "A*A*");
        is("not any more", x.behind(0, 1), 0);
        Due.write(x, "A*A*A*..A+1Ax");
        is("evenings and loans do not heal him", x.behind(0, 1), 1);
        x.piece(0, 100, 1, 1);
        Due.write(x, "0B*");
        is("who sang may be hoarse: hoarse", x.behind(1, 1), 1);
        is("who sang may be hoarse: he sang", x.behind(1, 2), 1);
        is("done", x.done(), 2);
        Due.write(x, "B*");
        is("hoarse now, not then", x.behind(1, 1), 0);
        is("he sang, still", x.behind(1, 2), 1);
    }

    /** "= and a letter (that one takes DEBT over from him: all of it)". */
    private static void takesOver() {
        DebtChoir x = all(0, 400, 599, 0, 1, 999);
        owe("999 together", x, "A=B", 0, 999, 0, 1);
        owe("the other way", x, "B=A", 999, 0, 0, 1);
        owe("by who is free", x, "A=C", 0, 599, 400, 1);
        owe("all of 999", x, "E=C", 400, 599, 999, 1, 0);
        judged("1000 together", x, "D=AA=B", 1, 3);
        judged("1 and 999", x, "D=E", 0, 3);
        owe("to and fro", x, "A=CC=A", 400, 599, 0, 1, 999);
        x.piece(0, 1000, 1, 1);
        Due.write(x, "E*0B=C");
        is("who sang did, the debt gone or not", x.behind(1, 2), 1);
        is("who takes it over sang nothing", x.behind(2, 2), 0);
        is("who takes it over is not hoarse", x.behind(2, 1), 0);
        owe("and sings it off the same evening", x, "E*0B=C0", 400, 0, 597, 1, 999);
    }

    /** "x (he is let go: his DEBT is 0)". */
    private static void letGo() {
        DebtChoir x = all(3, 999, 1, 0);
        owe("of 999", x, "Ax", 0, 1, 0);
        owe("of 1", x, "Bx", 999, 0, 0);
        judged("of 0", x, "Cx", 0, 2);
        judged("again", x, "BxBx", 1, 2);
        judged("has come back, and borrowed a little", x, "BxB+1Bx", NONE, NONE);
        is("nothing was sung off", x.owed(1), 0);
        doneAs("he is there", x, "Ax", 1);
        is("he is there still", x.told(1), 7);
        is("and owes nothing", x.told(11), 0);
    }

    /** "a tenth of his DEBT, cut, more, 999 at most". */
    private static void tenth() {
        int[][] debts = {{0, 0}, {1, 1}, {9, 9}, {10, 11}, {19, 20}, {20, 22}, {99, 108}, {100, 110}, {907, 997},
            {908, 998}, {909, 999}, {910, 999}, {989, 999}, {990, 999}, {998, 999}, {999, 999}};
        for (int[] debt : debts) {
            owe("a tenth of " + debt[0], all(2, debt[0]), ".", debt[1]);
        }
        owe("evening by evening", all(2, 10), "..........", 20);
        // 11 12 13 14 15 16 17 18 19 20
        owe("one more", all(2, 10), "...........", 22);
        DebtChoir x = all(2, 990);
        doneAs("999 is done", x, ".", 1);
        is("999 is told", x.told(11), 999);
    }

    /** "who is HOARSE or sang nothing has a tenth of his DEBT .. more .. all may sing again". */
    private static void whoOwesATenth() {
        DebtChoir x = all(0, 100, 90);
        x.piece(0, 1000, 1, 1);
        owe("who sang does not", x, "0.", 99, 99);
        owe("who sang and is hoarse does", x, "0A*.", 108, 99);
        owe("who sang and is hoarse no more does not", x, "0A*A*.", 99, 99);
        owe("who is hoarse does", x, "A*.", 110, 99);
        owe("all sang", x, "00.", 99, 89);
        owe("all sang, and all again", x, "00.00.", 98, 88);
        owe("all sang, and none", x, "00..", 108, 97);
        owe("who sang and borrowed does not", x, "0A+1.", 109, 99);
        owe("who was let go owes none", x, "Ax.", 0, 99);
        Due.write(x, "00.");
        is("all may sing again: A", x.behind(0, 2), 0);
        is("all may sing again: B", x.behind(1, 2), 0);
        is("the evening is not done", x.told(2), 0);
    }

    private static void faultIs(String text, int place) {
        DebtChoir x = new DebtChoir();
        Due.write(x, text);
        is("the fault of \"" + text + "\"", x.fault(), place);
    }

    /** "THE FAULT: the place (from 0 on) of the first sign that can not stand there". */
    private static void faultPlaces() {
        for (char sign = 33; sign <= 126; sign++) {
            boolean letter = sign >= 'A' && sign <= 'H';
            boolean whole = (sign >= '0' && sign <= '5') || sign == '.';
            faultIs("" + sign, letter ? 1 : whole ? NONE : 0);
            faultIs("0" + sign, letter ? 2 : whole ? NONE : 1);
            boolean mark = sign == '+' || sign == '=';
            faultIs("A" + sign, mark ? 2 : sign == '*' || sign == 'x' ? NONE : 1);
            faultIs("H+" + sign, sign >= '1' && sign <= '9' ? NONE : 2);
            faultIs("H=" + sign, letter ? NONE : 2);
            faultIs("A*" + sign, letter ? 3 : whole ? NONE : 2);
            faultIs("Bx" + sign, letter ? 3 : whole ? NONE : 2);
            faultIs("B+1" + sign, letter ? 4 : whole ? NONE : 3);
            faultIs("B=C" + sign, letter ? 4 : whole ? NONE : 3);
        }
        faultIs("6!", 0);
        faultIs("0!!", 1);
        faultIs("A!A!", 1);
        faultIs("A+0A", 2);
    }

    /** "or the number of signs, if more must come (an empty PAD has no FAULT: no ACTS)". */
    private static void faultWhileSaid() {
        DebtChoir x = new DebtChoir();
        is("no signs", x.fault(), NONE);
        int[] due = {1, 2, NONE, 4, 5, NONE, 7, NONE, 9, NONE, NONE, NONE, 13, 13};
        String text = "A+9B=BC*Dx.0E!";
        for (int i = 0; i < due.length; i++) {
            x.say(text.charAt(i));
            is("a sign that is said changes what fault tells: " + (i + 1), x.fault(), due[i]);
        }
        x.say('*');
        is("the first stays", x.fault(), 13);
        x.wipe();
        is("wiped", x.fault(), NONE);
    }

    private static void faultOfFullPads() {
        String nulls = "0".repeat(60);
        faultIs(nulls, NONE);
        faultIs(nulls.substring(1) + "!", 59);
        faultIs("!" + nulls.substring(1), 0);
        faultIs(nulls.substring(1) + "A", 60);
        faultIs(nulls.substring(2) + "A+", 60);
        faultIs(nulls.substring(2) + "A=", 60);
        faultIs(nulls.substring(2) + "A*", NONE);
        faultIs(nulls.substring(3) + "A+9", NONE);
        faultIs(nulls.substring(3) + "A+0", 59);
        faultIs(nulls.substring(3) + "A=H", NONE);
        faultIs("A*".repeat(30), NONE);
        faultIs("A+1".repeat(20), NONE);
        DebtChoir x = new DebtChoir();
        Due.write(x, nulls.substring(2) + "A+1");
        is("7 more must come, but there is no room: full", x.say('1'), FULL);
        x = new DebtChoir();
        Due.write(x, nulls.substring(1) + "A");
        is("7 full: more must come", x.fault(), 60);
        is("7 full: no more comes", x.say('*'), FULL);
        is("7 full: as it was", x.fault(), 60);
    }

    /** "An ACT can not be for the least of these reasons: 1 there is no such SINGER (one of both); 2 .." */
    private static void leastReason() {
        DebtChoir x = all(0, 999, 0, 998, 1);
        for (String text : new String[] {"E+1", "H+9", "E*", "Ex", "E=A", "A=E", "E=F", "B=E", "E=E", "C=H"}) {
            judged("1 there is no such singer, ahead of 2 and 3", x, text, 0, 1);
        }
        judged("2 both are one", x, "A=A", 0, 2);
        judged("2 both are one, ahead of 3", x, "C=C", 0, 2);
        judged("2 both are one, and is free", x, "B=B", 0, 2);
        judged("2 he is free (=)", x, "B=D", 0, 2);
        judged("2 he is free (=), the other owes 999", x, "B=A", 0, 2);
        judged("2 he is free (x)", x, "Bx", 0, 2);
        judged("who is free may borrow and be hoarse", x, "B+1B*", NONE, NONE);
        judged("the other one may be free (=)", x, "A=B", NONE, NONE);
        x.leave(3);
        judged("1 he is no more", x, "D*", 0, 1);
        judged("1 he is no more (=)", x, "A=D", 0, 1);
        x.singer(3, 0, 0);
        judged("he is again", x, "D*", NONE, NONE);
        judged("without singers", new DebtChoir(), "A*", 0, 1);
    }

    /** "3 his DEBT would be above 999 (+, of the other one =)". */
    private static void reasonThree() {
        DebtChoir x = all(0, 999, 989, 990, 0, 500, 499);
        judged("999 and 10", x, "A+1", 0, 3);
        judged("989 and 10", x, "B+1", NONE, NONE);
        judged("989 and 20", x, "B+2", 0, 3);
        judged("990 and 10", x, "C+1", 0, 3);
        judged("500 and 499", x, "E=F", NONE, NONE);
        judged("499 and 500", x, "F=E", NONE, NONE);
        x.singer(5, 0, 500);
        judged("500 and 500", x, "E=F", 0, 3);
        judged("999 to one who is free", x, "A=D", NONE, NONE);
        judged("999 to one who owes 10", x, "D+1A=D", 1, 3);
        judged("he who gives owes more, that is no matter", x, "A=DA+9", NONE, NONE);
    }

    /** "4 of some VOICE there are too few to sing (a digit)". */
    private static void reasonFour() {
        DebtChoir x = new DebtChoir();
        for (int singer = 0; singer < 8; singer++) {
            x.singer(singer, singer % 4, 100);
        }
        int[] needs = {2222, 3222, 2322, 2232, 2223, 0};
        for (int piece = 0; piece < 6; piece++) {
            x.piece(piece, needs[piece], 1, 1);
        }
        judged("two of each", x, "0", NONE, NONE);
        for (int piece = 1; piece <= 4; piece++) {
            judged("three of one", x, "" + piece, 0, 4);
        }
        judged("nobody", x, "5", NONE, NONE);
        is("may", x.may(), 1 + 32);
        for (char letter = 'A'; letter <= 'H'; letter++) {
            judged("one is hoarse", x, letter + "*0", 1, 4);
            judged("one is free", x, letter + "x0", 1, 4);
        }
        judged("all sang", x, "005", 1, 4);
        judged("all sang, of nobody", x, "05", NONE, NONE);
        owe("a piece that can not be changes nobody", x, "", 100, 100, 100, 100, 100, 100, 100, 100);
    }

    /** 0 to 98 ended, and one more: it is evening 99. */
    private static DebtChoir atEvening(int evening) {
        DebtChoir x = all(0, 100);
        x.piece(0, 1000, 1, 1);
        x.piece(3, 1000, 1, 1);
        for (int i = 0; i < evening; i += 33) {
            doneAs("evening " + i, x, ".".repeat(Math.min(33, evening - i)), Math.min(33, evening - i));
        }
        x.singer(0, 0, 100);
        return x;
    }

    /** "5 it is evening 99 (.)". */
    private static void lastEvening() {
        DebtChoir x = atEvening(98);
        is("98", x.told(2), 98);
        judged("98: ends", x, ".", NONE, NONE);
        owe("98: a tenth", x, ".", 110);
        judged("98: the next does not", x, "..", 1, 5);
        judged("98: the next does not, whoever sang", x, "0.0.", 3, 5);
        doneAs("98", x, ".", 1);
        is("99", x.told(2), 99);
        judged("99: does not end", x, ".", 0, 5);
        is("99: not done", x.done(), STATE);
        is("99: the pad stays", x.told(0), 1);
        owe("99: he sings", x, "0A+1A*", 119);
        doneAs("99: done", x, "0", 1);
        judged("99: he sang, and will not again", x, "0", 0, 4);
        is("99 still", x.told(2), 99);
        DebtChoir y = new DebtChoir();
        for (int i = 0; i < 3; i++) {
            doneAs("without singers", y, ".".repeat(33), 33);
        }
        judged("without singers", y, ".", 0, 5);
        x = atEvening(97);
        judged("97", x, "..", NONE, NONE);
        judged("97: the third", x, "...", 2, 5);
    }

    /** "each if that can be": an evening of a YEAR ends if it is not evening 99. */
    private static void lastEveningOfAYear() {
        // seed 3: 299: 299 left over by 8 is 3
        is("evening 98", atEvening(98).year(3, 1, 0), 110);
        is("evening 99", atEvening(99).year(3, 1, 0), 100);
        DebtChoir x = atEvening(97);
        x.image(0);
        doneAs("97", x, "..", 2);
        x.singer(0, 0, 100);
        is("evening 99 again", x.year(3, 1, 0), 100);
        x.restore(0);
        is("evening 97 again", x.told(2), 97);
        is("evening 97", x.year(3, 1, 0), 110);
    }

    /** "the first ACT (from 0 on) that can not be, why". */
    private static void judgedActs() {
        DebtChoir x = all(0, 100, 0);
        x.piece(1, 3000, 1, 1);
        judged("no acts", x, "", NONE, NONE);
        judged("all can be", x, "0A+1A*.", NONE, NONE);
        judged("act 0", x, "1", 0, 4);
        judged("acts are counted, not signs", x, "A+1A=BA*0.1", 5, 4);
        judged("the first of several", x, "0C*1", 1, 1);
        judged("the first, not the least reason", x, "1C*", 0, 4);
        judged("act 59", x, "0".repeat(59) + "1", 59, 4);
        judged("act 29", x, "A*".repeat(29) + "C*", 29, 1);
        judged("act 19", x, "A+1".repeat(19) + "C+1", 19, 1);
        x.singer(0, 0, 799);
        judged("twenty loans", x, "A+1".repeat(20), NONE, NONE);
        x.singer(0, 0, 800);
        judged("twenty loans, one too many", x, "A+1".repeat(20), 19, 3);
    }

    /** "PIECES that were sung"; "STATE (2): some ACT can not be"; "NO: there is a FAULT". */
    private static void judgedPieces() {
        DebtChoir x = all(0, 100, 50);
        x.piece(1, 1000, 1, 1);
        String[] texts = {"", ".A+1A*A=BBx", "1", "1.1", "0A*12345", "0".repeat(60)};
        int[] due = {0, 0, 1, 2, 6, 60};
        for (int i = 0; i < texts.length; i++) {
            Due.write(x, texts[i]);
            is("8 pieces of " + texts[i], x.judge(2), due[i]);
        }
        Due.write(x, "1C*");
        is("8 pieces, one act can not be", x.judge(2), STATE);
        is("8 the act is told", x.judge(0), 1);
        is("8 why is told", x.judge(1), 1);
        Due.write(x, "1C*6");
        for (int what = 0; what < 3; what++) {
            is("8 no ahead of state: " + what, x.judge(what), NO);
        }
        Due.write(x, "1C");
        for (int what = 0; what < 3; what++) {
            is("8 no: more must come: " + what, x.judge(what), NO);
        }
    }

    /** "BEHIND: of a SINGER his DEBT, whether he is HOARSE, whether he sang this evening (1, 0)". */
    private static void behind() {
        DebtChoir x = all(0, 999, 0);
        x.piece(1, 1000, 60, 9);
        Due.write(x, "1A*");
        int[] due = {459, 1, 1};
        for (int what = 0; what < 3; what++) {
            is("9 A " + what, x.behind(0, what), due[what]);
            is("9 B " + what, x.behind(1, what), 0);
        }
        Due.write(x, "1A*.");
        int[] later = {504, 1, 0};
        for (int what = 0; what < 3; what++) {
            is("9 A later " + what, x.behind(0, what), later[what]);
        }
        is("9 now is now", x.told(11), 999);
        is("9 C", x.behind(2, 0), UNKNOWN);
        is("9 H", x.behind(7, 0), UNKNOWN);
        is("9 8", x.behind(8, 0), UNKNOWN);
        is("9 what 3", x.behind(0, 3), OUTSIDE);
        is("9 what -1", x.behind(0, -1), OUTSIDE);
    }

    /** An empty PAD: no ACTS, and behind them it is as it is. */
    private static void emptyPad() {
        DebtChoir x = all(0, 70, 30, 0);
        x.piece(1, 1000, 1, 1);
        doneAs("ahead", x, "1B*", 2);
        is("fault", x.fault(), NONE);
        is("the act", x.judge(0), NONE);
        is("why", x.judge(1), NONE);
        is("pieces", x.judge(2), 0);
        is("debt", x.behind(0, 0), 69);
        is("sang", x.behind(0, 2), 1);
        is("hoarse", x.behind(1, 1), 1);
        is("all debts", x.owed(0), 99);
        is("nothing is sung off", x.owed(1), 0);
        is("nobody is freed", x.freed(0), NONE);
        is("nobody is freed: who", x.freed(1), NONE);
        is("done", x.done(), 0);
        is("no signs", x.wipe(), 0);
        DebtChoir y = new DebtChoir();
        is("without singers: debts", y.owed(0), 0);
        is("without singers: sung off", y.owed(1), 0);
        is("without singers: freed", y.freed(0), NONE);
        is("without singers: done", y.done(), 0);
    }

    /** "all DEBTS together behind; what was sung off in all". */
    private static void owed() {
        DebtChoir x = all(0, 999, 999, 999, 999, 999, 999, 999, 999);
        x.piece(0, 3000, 60, 9);
        is("10 the greatest", x.owed(0), 8 * 999);
        Due.write(x, "00.00.");
        // first A to F, each 540; then G and H, and A, who owes 459; B to D, who owe as much
        is("10 twelve sang", x.owed(1), 8 * 540 + 4 * 459);
        Due.write(x, "AxB=A");
        is("10 let go is not sung off", x.owed(1), 0);
        is("10 let go is owed no more", x.owed(0), 7 * 999);
        is("10 what 2", x.owed(2), OUTSIDE);
        is("10 what -1", x.owed(-1), OUTSIDE);
        doneAs("10", x, "0", 1);
        is("10 now", x.owed(0), 8 * 999 - 3 * 540);
        is("10 done is no more on the pad", x.owed(1), 0);
    }

    /** "the first ACT behind which somebody is FREE who was not ahead of it; .. NONE". */
    private static void freed() {
        DebtChoir x = all(0, 50, 0, 20);
        x.piece(0, 1000, 1, 1);
        x.piece(1, 1000, 60, 9);
        String[] texts = {"", "B*", "0", "1", "01", "A=B", "A*B+1BxAx", "C=AA=C", "B+1B=A", ".1", "B+1.11", "Cx1"};
        int[] act = {NONE, NONE, NONE, 0, 1, 0, 2, 0, 1, 1, 2, 0};
        int[] who = {NONE, NONE, NONE, 0, 2, 0, 1, 2, 1, 0, 0, 2};
        for (int i = 0; i < texts.length; i++) {
            Due.write(x, texts[i]);
            is("11 act of " + texts[i], x.freed(0), act[i]);
            is("11 who of " + texts[i], x.freed(1), who[i]);
        }
        Due.write(x, "1B*Dx");
        is("11 one can not be", x.freed(0), STATE);
        is("11 what 2", x.freed(2), OUTSIDE);
        is("11 what -1", x.freed(-1), OUTSIDE);
        x.singer(7, 3, 5);
        Due.write(x, "0" + "A*".repeat(28) + "Hx");
        is("11 act 29", x.freed(0), 29);
        is("11 H", x.freed(1), 7);
    }

    /** "the least such SINGER". */
    private static void freedTogether() {
        DebtChoir x = all(2, 3, 4, 5, 6);
        x.singer(0, 3, 1);
        x.piece(0, 31, 1, 5);
        Due.write(x, "A*A*0");
        is("11 all but one", x.freed(0), 2);
        is("11 the least is a bass", x.freed(1), 0);
        x.piece(0, 30, 1, 5);
        Due.write(x, "0");
        is("11 the least tenor is not the first to sing", x.freed(1), 1);
        is("11 one of them is not free", x.behind(3, 0), 1);
        Due.write(x, "Ax0");
        is("11 who is let go ahead of it", x.freed(1), 0);
        doneAs("11", x, "Ax", 1);
        Due.write(x, "0");
        is("11 who was free is not freed", x.freed(1), 1);
    }

    /** "DONE: it is so then (who sang this evening stays so)"; "(the PAD is empty then): ACTS". */
    private static void done() {
        DebtChoir x = all(0, 100, 50, 0);
        x.piece(0, 1000, 2, 5);
        doneAs("12", x, "0B*C+1", 3);
        is("12 the pad is empty", x.told(0), 0);
        is("12 the pad is wiped", x.wipe(), 0);
        is("12 he sang", x.told(13), 1);
        is("12 hoarse", x.told(22), 1);
        is("12 borrowed", x.told(31), 10);
        judged("12 who sang stays so", x, "00", 1, 4);
        owe("12 the one who did not", x, "0", 90, 50, 0);
        doneAs("12", x, "0.", 2);
        is("12 sang no more", x.told(13), 0);
        is("12 who sang has no tenth", x.told(11), 90);
        is("12 who is hoarse has", x.told(21), 55);
        is("12 one evening", x.told(2), 1);
        doneAs("12 sixty acts", x, "1".repeat(60), 60);
        doneAs("12 thirty acts", x, "A*".repeat(30), 30);
        doneAs("12 no acts", x, "", 0);
        Due.write(x, "A*Dx");
        is("12 state", x.done(), STATE);
        is("12 state: nothing is done", x.told(12), 0);
        is("12 state: the pad stays", x.told(0), 4);
        Due.write(x, "A*D");
        is("12 no", x.done(), NO);
        is("12 no: nothing is done", x.told(12), 0);
        is("12 no: the pad stays", x.told(0), 3);
    }

    /** "MAY: PIECES that can be sung now, as bits": now, not behind the PAD. */
    private static void may() {
        DebtChoir x = all(0, 5, 5, 5);
        int[] needs = {1000, 2000, 3000, 3100, 0, 1};
        for (int piece = 0; piece < 6; piece++) {
            x.piece(piece, needs[piece], 1, 1);
        }
        is("13 without singers, nobody", new DebtChoir().may(), 63);
        is("13 three soprani", x.may(), 1 + 2 + 4 + 16);
        Due.write(x, "0A*!");
        is("13 a fault is no matter", x.may(), 1 + 2 + 4 + 16);
        Due.write(x, "0A*Cx");
        is("13 the pad is no matter", x.may(), 1 + 2 + 4 + 16);
        doneAs("13", x, "0", 1);
        is("13 one sang", x.may(), 1 + 2 + 16);
        doneAs("13", x, "B*", 1);
        is("13 one is hoarse", x.may(), 1 + 16);
        doneAs("13", x, "Cx", 1);
        is("13 one is free", x.may(), 16);
        x.singer(7, 1, 1);
        x.singer(6, 3, 1);
        doneAs("13", x, ".B*C+1", 3);
        is("13 all", x.may(), 63);
    }

    /** "A SINGER is there (or anew: not HOARSE, sang nothing)". */
    private static void anew() {
        DebtChoir x = all(0, 50, 40);
        x.piece(0, 2000, 1, 1);
        doneAs("2", x, "0A*B*", 3);
        is("2 anew", x.singer(0, 0, 60), 2);
        is("2 anew: debt", x.told(11), 60);
        is("2 anew: not hoarse", x.told(12), 0);
        is("2 anew: sang nothing", x.told(13), 0);
        is("2 the other is hoarse", x.told(22), 1);
        is("2 the other sang", x.told(23), 1);
        is("3 the other leaves", x.leave(1), 1);
        is("2 the other comes back", x.singer(1, 3, 0), 2);
        is("2 back: voice", x.told(20), 3);
        is("2 back: not hoarse", x.told(22), 0);
        is("2 back: sang nothing", x.told(23), 0);
    }

    /** "A SINGER is no more: how many are. UNKNOWN: he was not." */
    private static void leaves() {
        DebtChoir x = all(0, 50, 40, 30);
        x.piece(0, 3000, 1, 1);
        is("3 the middle one", x.leave(1), 2);
        is("3 he was not", x.leave(1), UNKNOWN);
        is("3 bits", x.told(1), 5);
        is("3 not told", x.told(20), OUTSIDE);
        is("3 not behind", x.behind(1, 0), UNKNOWN);
        is("3 no nights", x.nights(1, 0), UNKNOWN);
        is("3 owes no more", x.owed(0), 80);
        is("3 sings no more", x.may(), 62);
        is("3 can not be ruined", x.ruin(0, 0), NONE);
        is("3 the first", x.leave(0), 1);
        is("3 the last", x.leave(2), 0);
        is("3 nobody", x.told(1), 0);
        is("3 nobody owes", x.owed(0), 0);
    }

    /** "A sign more: how many"; "Signs go: how many there were". */
    private static void saidAndWiped() {
        DebtChoir x = new DebtChoir();
        is("6 none", x.wipe(), 0);
        is("5 one", x.say('!'), 1);
        is("6 one", x.wipe(), 1);
        Due.write(x, "~".repeat(60));
        is("5 full", x.say('~'), FULL);
        is("6 sixty", x.wipe(), 60);
        is("6 none again", x.wipe(), 0);
        is("6 no fault", x.fault(), NONE);
        is("5 one again", x.say('0'), 1);
        is("6 what was wiped is not done", x.done(), 1);
    }
}
