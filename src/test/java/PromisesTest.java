/** Each promise of the document by cases that were reckoned by hand. */
public final class PromisesTest {
    private static final int UNKNOWN = -1, OUTSIDE = -2, STATE = -3, FULL = -4, NO = -5, NONE = -6;
    private static final Due DUE = new Due();

    public static void main(String[] args) {
        constants();
        newObject();
        singer();
        leave();
        piece();
        say();
        wipe();
        fault();
        judge();
        judgeReasons();
        judgeInterest();
        behind();
        owed();
        freed();
        done();
        may();
        nights();
        programme();
        ruin();
        seats();
        rings();
        seen();
        forget();
        holds();
        ask();
        fugue();
        year();
        image();
        restore();
        told();
        DUE.end();
    }

    private static void is(String what, long got, long want) {
        DUE.is(what, got, want);
    }

    /** A to D: a soprano 100, a soprano 200, an alto 50, a bass 0; PIECES 0 and 1. */
    private static DebtChoir some() {
        DebtChoir x = new DebtChoir();
        x.singer(0, 0, 100);
        x.singer(1, 0, 200);
        x.singer(2, 1, 50);
        x.singer(3, 3, 0);
        x.piece(0, 1000, 10, 3);
        x.piece(1, 1100, 20, 2);
        return x;
    }

    private static DebtChoir with(String text) {
        DebtChoir x = some();
        Due.write(x, text);
        return x;
    }

    private static void constants() {
        is("UNKNOWN", DebtChoir.UNKNOWN, -1);
        is("OUTSIDE", DebtChoir.OUTSIDE, -2);
        is("STATE", DebtChoir.STATE, -3);
        is("FULL", DebtChoir.FULL, -4);
        is("NO", DebtChoir.NO, -5);
        is("NONE", DebtChoir.NONE, -6);
        is("GONE", DebtChoir.GONE, -1000000000000000000L);
    }

    private static void newObject() {
        DebtChoir x = new DebtChoir();
        for (int what = 0; what <= 3; what++) {
            is("1 told(" + what + ")", x.told(what), 0);
        }
        for (int piece = 0; piece < 6; piece++) {
            for (int detail = 0; detail <= 5; detail++) {
                int what = 100 + 10 * piece + detail;
                is("1 told(" + what + ")", x.told(what), 0);
            }
        }
        is("1 may", x.may(), 63);
        is("1 owed", x.owed(0), 0);
        is("1 restore", x.restore(0), STATE);
    }

    private static void singer() {
        DebtChoir x = new DebtChoir();
        is("2 below", x.singer(-1, 0, 0), UNKNOWN);
        is("2 above", x.singer(8, 0, 0), UNKNOWN);
        is("2 unknown ahead of outside", x.singer(8, 4, 1000), UNKNOWN);
        is("2 voice below", x.singer(0, -1, 0), OUTSIDE);
        is("2 voice above", x.singer(0, 4, 0), OUTSIDE);
        is("2 debt below", x.singer(0, 0, -1), OUTSIDE);
        is("2 debt above", x.singer(0, 0, 1000), OUTSIDE);
        is("2 nobody came", x.told(1), 0);
        is("2 first", x.singer(7, 3, 999), 1);
        is("2 second", x.singer(0, 2, 0), 2);
        is("2 bits", x.told(1), 129);
        is("2 voice", x.told(80), 3);
        is("2 debt", x.told(81), 999);
        Due.write(x, "H*A+1");
        is("2 done", x.done(), 2);
        x.piece(0, 10, 1, 1);
        Due.write(x, "0");
        is("2 sung", x.done(), 1);
        is("2 hoarse", x.told(82), 1);
        is("2 sang", x.told(13), 1);
        is("2 anew hoarse", x.singer(7, 1, 5), 2);
        is("2 anew sang", x.singer(0, 2, 10), 2);
        is("2 not hoarse", x.told(82), 0);
        is("2 sang nothing", x.told(13), 0);
        is("2 other voice", x.told(80), 1);
        is("2 other debt", x.told(81), 5);
        is("2 refused changes nothing", x.singer(7, 2, 1000), OUTSIDE);
        is("2 voice stays", x.told(80), 1);
    }

    private static void leave() {
        DebtChoir x = some();
        is("3 below", x.leave(-1), UNKNOWN);
        is("3 above", x.leave(8), UNKNOWN);
        is("3 was not", x.leave(4), UNKNOWN);
        is("3 leaves", x.leave(1), 3);
        is("3 bits", x.told(1), 13);
        is("3 again", x.leave(1), UNKNOWN);
        is("3 not sung by who left", x.ruin(0, 0), 0);
        is("3 debts", x.owed(0), 150);
        is("3 back", x.singer(1, 0, 7), 4);
        is("3 back debt", x.told(21), 7);
    }

    private static void piece() {
        DebtChoir x = new DebtChoir();
        is("4 below", x.piece(-1, 0, 0, 0), UNKNOWN);
        is("4 above", x.piece(6, 4, 61, 10), UNKNOWN);
        is("4 needs below", x.piece(0, -1, 0, 0), OUTSIDE);
        is("4 needs digit 0", x.piece(0, 4000, 0, 0), OUTSIDE);
        is("4 needs digit 1", x.piece(0, 400, 0, 0), OUTSIDE);
        is("4 needs digit 2", x.piece(0, 40, 0, 0), OUTSIDE);
        is("4 needs digit 3", x.piece(0, 4, 0, 0), OUTSIDE);
        is("4 five digits", x.piece(0, 10000, 0, 0), OUTSIDE);
        is("4 bars below", x.piece(0, 0, -1, 0), OUTSIDE);
        is("4 bars above", x.piece(0, 0, 61, 0), OUTSIDE);
        is("4 pay below", x.piece(0, 0, 0, -1), OUTSIDE);
        is("4 pay above", x.piece(0, 0, 0, 10), OUTSIDE);
        is("4 first", x.piece(5, 3210, 60, 9), 0);
        is("4 soprani", x.told(150), 3);
        is("4 alti", x.told(151), 2);
        is("4 tenori", x.told(152), 1);
        is("4 bassi", x.told(153), 0);
        is("4 bars", x.told(154), 60);
        is("4 pay", x.told(155), 9);
        is("4 refused changes nothing", x.piece(5, 0, 61, 1), OUTSIDE);
        is("4 bars it had", x.piece(5, 3333, 1, 0), 60);
        is("4 bars it had then", x.piece(5, 0, 0, 0), 1);
    }

    private static void say() {
        DebtChoir x = new DebtChoir();
        is("5 below", x.say(32), OUTSIDE);
        is("5 above", x.say(127), OUTSIDE);
        is("5 first", x.say(33), 1);
        is("5 second", x.say(126), 2);
        for (int i = 3; i <= 60; i++) {
            is("5 sign", x.say('0'), i);
        }
        is("5 outside ahead of full", x.say(32), OUTSIDE);
        is("5 full", x.say('0'), FULL);
        is("5 stays", x.told(0), 60);
    }

    private static void wipe() {
        DebtChoir x = new DebtChoir();
        is("6 none", x.wipe(), 0);
        Due.write(x, "0.!");
        is("6 three", x.wipe(), 3);
        is("6 gone", x.told(0), 0);
        is("6 again", x.wipe(), 0);
    }

    private static void faultOf(String text, int due) {
        DebtChoir x = new DebtChoir();
        Due.write(x, text);
        is("7 " + text, x.fault(), due);
        is("7 and 8 " + text, x.judge(0) == NO ? 1 : 0, due == NONE ? 0 : 1);
    }

    private static void fault() {
        faultOf("", NONE);
        faultOf("012345.", NONE);
        faultOf("6", 0);
        faultOf("/", 0);
        faultOf("A+1B*C=DExH+9", NONE);
        faultOf("A", 1);
        faultOf("A+", 2);
        faultOf("A=", 2);
        faultOf("A+0", 2);
        faultOf("A+:", 2);
        faultOf("A=1", 2);
        faultOf("A=I", 2);
        faultOf("A=@", 2);
        faultOf("A=H", NONE);
        faultOf("Ax", NONE);
        faultOf("AX", 1);
        faultOf("A0", 1);
        faultOf("I*", 0);
        faultOf("@*", 0);
        faultOf("a*", 0);
        faultOf("..A*B", 5);
        faultOf("A*1x", 3);
        faultOf("A=A+", 3);
        faultOf("!~", 0);
    }

    private static void judged(DebtChoir x, String text, int act, int why) {
        Due.write(x, text);
        is("8 act of " + text, x.judge(0), act);
        is("8 why of " + text, x.judge(1), why);
        if (act != NONE) {
            is("8 pieces of " + text, x.judge(2), STATE);
        }
    }

    private static void judge() {
        DebtChoir x = some();
        is("8 what below", x.judge(-1), OUTSIDE);
        is("8 what above", x.judge(3), OUTSIDE);
        is("8 no acts", x.judge(0), NONE);
        is("8 no why", x.judge(1), NONE);
        is("8 no pieces", x.judge(2), 0);
        Due.write(x, "A");
        is("8 outside ahead of no", x.judge(3), OUTSIDE);
        for (int what = 0; what <= 2; what++) {
            is("8 a fault", x.judge(what), NO);
        }
        Due.write(x, "1.0.0A*");
        is("8 three pieces", x.judge(2), 3);
        is("8 all can be", x.judge(1), NONE);
        Due.write(x, "ExA");
        is("8 no ahead of state", x.judge(2), NO);
    }

    private static void judgeReasons() {
        DebtChoir x = some();
        for (String text : new String[] {"E+1", "E*", "E=A", "A=E", "E=E", "Ex", "H=G"}) {
            judged(x, text, 0, 1);
        }
        judged(x, "A=A", 0, 2);
        judged(x, "D=A", 0, 2);
        judged(x, "D=D", 0, 2);
        judged(x, "Dx", 0, 2);
        judged(x, "AxAx", 1, 2);
        judged(x, "A=BA=B", 1, 2);
        judged(x, "D=AE*", 0, 2);
        judged(x, "A+9A+9A+9A+9A+9A+9A+9A+9A+9A+9", 9, 3);
        judged(x, "A+9A+9A+9A+9A+9A+9A+9A+9A+8A+9", NONE, NONE);
        x.singer(0, 0, 989);
        judged(x, "A+1A+1", 1, 3);
        x.singer(0, 0, 990);
        judged(x, "A+1", 0, 3);
        judged(x, "A=B", 0, 3);
        judged(x, "B=A", 0, 3);
        x.singer(1, 0, 9);
        judged(x, "A=B", NONE, NONE);
        judged(x, "B=A", NONE, NONE);
        judged(x, "00", NONE, NONE);
        judged(x, "000", 2, 4);
        judged(x, "01", NONE, NONE);
        judged(x, "11", 1, 4);
        judged(x, "A*00", 2, 4);
        judged(x, "A*A*00", NONE, NONE);
        judged(x, "AxB*0", 2, 4);
        judged(x, "C*1", 1, 4);
        judged(x, "00.0", NONE, NONE);
        judged(x, "00.00", 4, 4);
    }

    /** Evening 99 is the last: it does not end. */
    private static void judgeInterest() {
        DebtChoir x = some();
        x.singer(0, 0, 9);
        for (int evening = 0; evening < 99; evening++) {
            Due.write(x, ".");
            is("8 evening " + evening, x.done(), 1);
        }
        is("8 evenings", x.told(2), 99);
        judged(x, "0.", 1, 5);
        is("8 not done", x.done(), STATE);
        is("8 nine bears no tenth", x.told(11), 9);
        is("8 999 at most", x.told(21), 999);
    }

    private static void behind() {
        DebtChoir x = with("1");
        is("9 below", x.behind(-1, 0), UNKNOWN);
        is("9 above", x.behind(8, 0), UNKNOWN);
        is("9 not there", x.behind(4, 9), UNKNOWN);
        is("9 what below", x.behind(0, -1), OUTSIDE);
        is("9 what above", x.behind(0, 3), OUTSIDE);
        is("9 most debt first", x.behind(1, 0), 160);
        is("9 less debt stays", x.behind(0, 0), 100);
        is("9 alto", x.behind(2, 0), 10);
        is("9 sang", x.behind(1, 2), 1);
        is("9 sang nothing", x.behind(0, 2), 0);
        is("9 not hoarse", x.behind(1, 1), 0);
        is("9 nothing is done", x.told(21), 200);
        x = with("1.");
        is("9 who sang owes no tenth", x.behind(1, 0), 160);
        is("9 who did not owes it", x.behind(0, 0), 110);
        is("9 all may sing again", x.behind(1, 2), 0);
        x = with("1B*.");
        is("9 hoarse owes it", x.behind(1, 0), 176);
        is("9 hoarse", x.behind(1, 1), 1);
        x = with("1B*B*.");
        is("9 hoarse no more", x.behind(1, 0), 160);
        x = with("B=C");
        is("9 taken over", x.behind(2, 0), 250);
        is("9 all of it", x.behind(1, 0), 0);
        x = with("D+7");
        is("9 borrowed", x.behind(3, 0), 70);
        x = with("Bx");
        is("9 let go", x.behind(1, 0), 0);
        x = with("A+9A+1");
        is("9 of the same debt the least", x.behind(0, 0), 200);
        Due.write(x, "A+9A+10");
        is("9 least sang", x.behind(0, 2), 1);
        is("9 other sang nothing", x.behind(1, 2), 0);
        x = with("E*A");
        is("9 outside ahead of no", x.behind(0, 3), OUTSIDE);
        is("9 unknown ahead of outside", x.behind(5, 3), UNKNOWN);
        is("9 no", x.behind(0, 0), NO);
        x = with("E*");
        is("9 state", x.behind(0, 0), STATE);
    }

    private static void owed() {
        DebtChoir x = with("1.0Ax");
        is("10 what below", x.owed(-1), OUTSIDE);
        is("10 what above", x.owed(2), OUTSIDE);
        is("10 debts", x.owed(0), 0 + 130 + 10);
        is("10 sung off", x.owed(1), 40 + 40 + 30);
        x.singer(1, 0, 15);
        x.singer(0, 0, 10);
        Due.write(x, "0");
        is("10 no more than he owes", x.owed(1), 15);
        Due.write(x, "00");
        is("10 in all", x.owed(1), 25);
        is("10 done", x.done(), 2);
        is("10 of what is on the pad", x.owed(1), 0);
        Due.write(x, "A");
        is("10 no", x.owed(0), NO);
        is("10 outside first", x.owed(2), OUTSIDE);
        Due.write(x, "Dx");
        is("10 state", x.owed(1), STATE);
    }

    private static void freedIs(String text, int act, int who) {
        DebtChoir x = with(text);
        is("11 act of " + text, x.freed(0), act);
        is("11 who of " + text, x.freed(1), who);
    }

    private static void freed() {
        freedIs("", NONE, NONE);
        freedIs("1.", NONE, NONE);
        freedIs("1.Cx", 2, 2);
        freedIs("A=D", 0, 0);
        freedIs("D+1DxAx", 1, 3);
        freedIs("A*BxAx", 1, 1);
        DebtChoir x = some();
        x.singer(0, 0, 30);
        x.singer(1, 0, 20);
        x.singer(2, 1, 40);
        Due.write(x, "01");
        is("11 sung free", x.freed(0), 0);
        is("11 most debt first", x.freed(1), 0);
        x.piece(2, 2100, 60, 9);
        Due.write(x, "A*A*2");
        is("11 several", x.freed(0), 2);
        is("11 the least", x.freed(1), 0);
        is("11 what below", x.freed(-1), OUTSIDE);
        is("11 what above", x.freed(2), OUTSIDE);
        Due.write(x, "Ax6");
        is("11 no", x.freed(0), NO);
        Due.write(x, "AxAx");
        is("11 state", x.freed(0), STATE);
    }

    private static void done() {
        DebtChoir x = some();
        is("12 no acts", x.done(), 0);
        Due.write(x, "1C*A+5");
        is("12 acts", x.done(), 3);
        is("12 pad", x.told(0), 0);
        is("12 debt A", x.told(11), 150);
        is("12 debt B", x.told(21), 160);
        is("12 hoarse", x.told(32), 1);
        is("12 sang stays", x.told(23), 1);
        is("12 evenings", x.told(2), 0);
        Due.write(x, "0");
        is("12 the other sings", x.behind(0, 0), 120);
        is("12 who sang does not", x.behind(1, 0), 160);
        Due.write(x, "0.");
        is("12 evening", x.done(), 2);
        is("12 one evening", x.told(2), 1);
        is("12 sang no more", x.told(23), 0);
        Due.write(x, "A+");
        is("12 no", x.done(), NO);
        Due.write(x, "A+1Dx");
        is("12 state", x.done(), STATE);
        is("12 pad stays", x.told(0), 5);
        is("12 debt stays", x.told(11), 120);
    }

    private static void may() {
        DebtChoir x = some();
        is("13 all", x.may(), 63);
        x.piece(2, 3000, 1, 1);
        is("13 three soprani", x.may(), 63 - 4);
        x.piece(3, 1, 1, 1);
        is("13 a free bass", x.may(), 63 - 4 - 8);
        Due.write(x, "C*0");
        is("13 the pad is not done", x.may(), 63 - 4 - 8);
        x.done();
        is("13 hoarse alto", x.may(), 63 - 2 - 4 - 8);
        Due.write(x, "0");
        x.done();
        is("13 both sang", x.may(), 63 - 1 - 2 - 4 - 8);
    }

    private static void nights() {
        DebtChoir x = some();
        is("14 below", x.nights(-1, 0), UNKNOWN);
        is("14 not there", x.nights(4, 2), UNKNOWN);
        is("14 what below", x.nights(0, -1), OUTSIDE);
        is("14 what above", x.nights(0, 2), OUTSIDE);
        is("14 free", x.nights(3, 0), 0);
        is("14 free first", x.nights(3, 1), NONE);
        is("14 too little", x.nights(0, 0), NONE);
        is("14 no first", x.nights(0, 1), NONE);
        x.piece(5, 1000, 60, 2);
        is("14 at once", x.nights(0, 0), 1);
        is("14 at once first", x.nights(0, 1), 5);
        // 200: 40 off and 176, 120 off and 61 is too much for 30; 120 off and 88, 40 off and 52
        is("14 three are too few", x.nights(1, 0), NONE);
        x.piece(4, 1000, 40, 2);
        // 200: 120 off leaves 80, and 88; 80 off leaves 8
        is("14 not in two", x.nights(1, 0), 3);
        // 0 first: 170, 187; 120 off: 67, 73; 80 off: 0
        is("14 the least first", x.nights(1, 1), 0);
        // 999 grows above 999
        x.singer(0, 0, 999);
        x.piece(0, 1000, 1, 1);
        x.piece(1, 1000, 60, 9);
        x.piece(2, 1000, 60, 9);
        x.piece(3, 0, 60, 9);
        // 998, 1097; 540 off: 557, 612; 540 off: 72, 79; 80 off
        x.piece(5, 0, 0, 0);
        is("14 two", x.nights(0, 0), 2);
        is("14 the big one", x.nights(0, 1), 1);
        Due.write(x, "A*");
        x.done();
        is("14 hoarse or not", x.nights(0, 0), 2);
        x.piece(2, 1000, 30, 9);
        // 1: 459, 504; 2: 234, 257; 4: 177: NONE
        is("14 none is enough", x.nights(0, 0), NONE);
        // 1000 and more ahead of the last: 999 less 1 is 998, 1097, and 540 less is 557, 612
        x.piece(5, 1000, 40, 7);
        // 540: 504; 280: 246; 270: 0
        is("14 three big ones", x.nights(0, 0), 3);
        // 270 first: 729, 801; 540: 261, 287; 280: 7: not free; 280 first: 719, 790; 540: 250, 275; 270: 5: not
        is("14 the order counts", x.nights(0, 1), 1);
    }

    private static void programme() {
        DebtChoir x = some();
        is("15 v below", x.programme(-1, 0), OUTSIDE);
        is("15 v above", x.programme(100, 0), OUTSIDE);
        is("15 what below", x.programme(0, -1), OUTSIDE);
        is("15 what above", x.programme(0, 2), OUTSIDE);
        // PIECE 0: 10 bars, 30; PIECE 1: 20 bars, 80
        is("15 no bars", x.programme(0, 0), 0);
        is("15 none", x.programme(9, 0), 0);
        is("15 none which", x.programme(9, 1), 0);
        is("15 first", x.programme(10, 0), 30);
        is("15 first which", x.programme(19, 1), 1);
        is("15 second", x.programme(20, 0), 80);
        is("15 second which", x.programme(29, 1), 2);
        is("15 both", x.programme(30, 0), 110);
        is("15 both which", x.programme(99, 1), 3);
        x.piece(2, 3333, 0, 9);
        is("15 no bars pay nothing", x.programme(30, 1), 3);
        x.piece(3, 1000, 10, 3);
        is("15 least as bits", x.programme(10, 1), 1);
        x.piece(0, 1000, 10, 2);
        is("15 the better one", x.programme(10, 1), 8);
    }

    private static void ruin() {
        DebtChoir x = some();
        is("16 below", x.ruin(-1, 0), UNKNOWN);
        is("16 above", x.ruin(6, 2), UNKNOWN);
        is("16 what below", x.ruin(0, -1), OUTSIDE);
        is("16 what above", x.ruin(0, 2), OUTSIDE);
        is("16 nobody", x.ruin(1, 0), 0);
        is("16 nobody who", x.ruin(1, 1), 0);
        x.piece(2, 2101, 1, 1);
        is("16 the bass", x.ruin(2, 0), 1);
        is("16 the bass who", x.ruin(2, 1), 8);
        x.piece(2, 3001, 1, 1);
        is("16 too few", x.ruin(2, 0), NONE);
        is("16 too few who", x.ruin(2, 1), NONE);
        x.singer(6, 0, 0);
        x.singer(5, 0, 0);
        is("16 least of each voice", x.ruin(2, 1), 8 + 32);
        is("16 two", x.ruin(2, 0), 2);
        Due.write(x, "F*");
        x.done();
        is("16 not the hoarse one", x.ruin(2, 1), 8 + 64);
        Due.write(x, "F*BxD+10");
        x.done();
        // B is FREE now, A sang: B, F and G must be ruined
        is("16 not who sang in debt", x.ruin(2, 0), 3);
        Due.write(x, "Ax");
        x.done();
        is("16 not who sang and is free", x.ruin(2, 1), 2 + 32 + 64);
        x.image(0);
        x.leave(6);
        is("16 who sang can not", x.ruin(2, 0), NONE);
        x.restore(0);
        x.piece(2, 3000, 1, 1);
        is("16 three of three", x.ruin(2, 0), 3);
        is("16 three of three who", x.ruin(2, 1), 2 + 32 + 64);
        x.piece(2, 2000, 1, 1);
        is("16 two of three who", x.ruin(2, 1), 2 + 32);
    }

    private static void seats() {
        DebtChoir x = new DebtChoir();
        is("17 k below", x.seats(-1, 0, 0), OUTSIDE);
        is("17 k above", x.seats(7, 0, 0), OUTSIDE);
        is("17 bids below", x.seats(0, -1, 0), OUTSIDE);
        is("17 bids above", x.seats(0, 1000000, 0), OUTSIDE);
        is("17 what below", x.seats(0, 0, -1), OUTSIDE);
        is("17 what above", x.seats(0, 0, 2), OUTSIDE);
        is("17 all bid nothing", x.seats(2, 0, 0), 1 + 2);
        is("17 no seats", x.seats(0, 123456, 0), 0);
        is("17 no seats, the highest", x.seats(0, 123456, 1), 6);
        is("17 two seats", x.seats(2, 123456, 0), 16 + 32);
        is("17 two seats for", x.seats(2, 123456, 1), 4);
        is("17 the same, the least", x.seats(2, 55955, 0), 2 + 8);
        is("17 the same for", x.seats(2, 55955, 1), 5);
        is("17 all", x.seats(6, 999999, 0), 63);
        is("17 all for nothing", x.seats(6, 999999, 1), 0);
        is("17 five", x.seats(5, 999991, 1), 1);
        is("17 creditor 5", x.seats(1, 1, 0), 32);
    }

    private static void rings() {
        DebtChoir x = new DebtChoir();
        is("18 not each once", x.rings(123, 112, 123, 123, 0), OUTSIDE);
        is("18 a digit 4", x.rings(4123, 123, 123, 123, 0), OUTSIDE);
        is("18 below", x.rings(123, 123, -123, 123, 0), OUTSIDE);
        is("18 five digits", x.rings(123, 123, 123, 10123, 0), OUTSIDE);
        is("18 what below", x.rings(123, 123, 123, 123, -1), OUTSIDE);
        is("18 what above", x.rings(123, 123, 123, 123, 2), OUTSIDE);
        is("18 all like 0", x.rings(123, 123, 123, 123, 0), 123);
        is("18 all keep", x.rings(123, 123, 123, 123, 1), 4);
        is("18 all like 3", x.rings(3210, 3210, 3210, 3210, 0), 123);
        is("18 a ring of four", x.rings(1023, 2013, 3012, 123, 0), 1230);
        is("18 none keeps", x.rings(1023, 2013, 3012, 123, 1), 0);
        is("18 two rings of two", x.rings(1023, 123, 3012, 2013, 0), 1032);
        // 0 and 1 swap; 2 wants 0, then 3; 3 wants 1, then 2
        is("18 the second round", x.rings(1023, 123, 312, 1203, 0), 1032);
        is("18 one keeps", x.rings(2013, 1023, 123, 3012, 1), 2);
    }

    private static void seen() {
        DebtChoir x = new DebtChoir();
        is("19 p below", x.seen(0, 0), OUTSIDE);
        is("19 p above", x.seen(10, 0), OUTSIDE);
        is("19 s below", x.seen(1, -1), OUTSIDE);
        is("19 s above", x.seen(1, 19), OUTSIDE);
        for (int i = 1; i <= 8; i++) {
            is("19 sight", x.seen(9, 18), i);
        }
        is("19 outside ahead of full", x.seen(9, 19), OUTSIDE);
        is("19 full", x.seen(9, 18), FULL);
        is("19 told", x.told(3), 8);
    }

    private static void forget() {
        DebtChoir x = new DebtChoir();
        is("20 none", x.forget(), 0);
        x.seen(1, 1);
        x.seen(2, 1);
        is("20 two", x.forget(), 2);
        is("20 gone", x.told(3), 0);
        is("20 all fit", x.holds(-1), 100);
    }

    private static void holds() {
        DebtChoir x = new DebtChoir();
        is("21 all", x.holds(-1), 100);
        is("21 below", x.holds(-2), NONE);
        is("21 above", x.holds(100), NONE);
        is("21 first", x.holds(0), 0);
        is("21 last", x.holds(99), 99);
        x.seen(9, 3);
        is("21 four rows", x.holds(-1), 4);
        is("21 row 0", x.holds(0), 3);
        is("21 row 1", x.holds(1), 12);
        is("21 row 2", x.holds(2), 21);
        is("21 row 3", x.holds(3), 30);
        is("21 row 4", x.holds(4), NONE);
        x.seen(2, 2);
        is("21 two rows", x.holds(-1), 2);
        is("21 the first", x.holds(0), 3);
        is("21 the second", x.holds(1), 30);
        x.seen(1, 2);
        is("21 no row", x.holds(-1), 0);
        is("21 no first", x.holds(0), NONE);
    }

    private static void ask() {
        DebtChoir x = new DebtChoir();
        is("22 what below", x.ask(-1), OUTSIDE);
        is("22 what above", x.ask(2), OUTSIDE);
        is("22 nothing seen", x.ask(0), 9);
        is("22 nothing seen: left", x.ask(1), 10);
        x.seen(9, 3);
        // 03, 12, 21, 30: by 1: two and two; by 2: two (2) and two (3); by 3: all 3
        is("22 the least", x.ask(0), 1);
        is("22 left", x.ask(1), 2);
        x.seen(1, 2);
        x.seen(2, 0);
        is("22 none", x.ask(0), NONE);
        is("22 none left", x.ask(1), NONE);
        is("22 outside ahead of none", x.ask(2), OUTSIDE);
    }

    private static void fugue() {
        DebtChoir x = new DebtChoir();
        long refused = -1000000000000000002L;
        int[] most = {9, 8, 10, 9, 9, 1, 1};
        for (int i = 0; i < 7; i++) {
            for (int off = 0; off < 2; off++) {
                int[] v = new int[7];
                v[i] = off == 0 ? -1 : most[i] + 1;
                is("23 refused", x.fugue(v[0], v[1], v[2], v[3], v[4], v[5], v[6]), refused);
            }
        }
        is("23 all least", x.fugue(0, 0, 0, 0, 0, 0, 0), 0);
        is("23 nothing by one", x.fugue(0, 8, 0, 0, 9, 0, 1), 1);
        is("23 no cost", x.fugue(3, 2, 0, 1, 0, 0, 0), 2);
        is("23 no evening", x.fugue(7, 0, 5, 9, 8, 0, 0), -56);
        is("23 no evening whole", x.fugue(7, 0, 5, 9, 8, 0, 1), 1);
        is("23 no evening no loan", x.fugue(7, 0, 5, 9, 8, 1, 0), 0);
        // 0: borrows 5, then 3/10: 0, 7/10: 2 at 3 each: 5 - 42/10
        is("23 one evening", x.fugue(0, 1, 3, 5, 3, 0, 0), 4);
        is("23 one evening of", x.fugue(0, 1, 3, 5, 3, 0, 1), 5);
        is("23 borrows", x.fugue(0, 1, 3, 5, 3, 1, 0), 1);
        is("23 borrows, whatever the part", x.fugue(0, 1, 3, 5, 3, 1, 1), 1);
        is("23 borrows not, whatever the part", x.fugue(7, 0, 5, 9, 8, 1, 1), 0);
        // 0: borrows 1 and owes 1 with certainty less 1: 1; with t 9: 1 - 2 * 2 / 10
        is("23 three fifths", x.fugue(0, 1, 9, 1, 2, 0, 0), 3);
        // the same: 3, and 0 at 10 tenths; gain 0
        is("23 the same: not", x.fugue(0, 1, 10, 0, 9, 1, 0), 0);
        // gain 3, cost 3, owes 1: borrowing moves all by one: the same
        is("23 owes 1, the same: not", x.fugue(1, 1, 4, 3, 3, 1, 0), 0);
        is("23 gain above cost", x.fugue(1, 1, 4, 4, 3, 1, 0), 1);
        // 9 is the most: 9 stays 9, or 8: -9 t / 10 ..
        is("23 nine", x.fugue(9, 1, 5, 9, 1, 0, 0), -17);
        is("23 nine of", x.fugue(9, 1, 5, 9, 1, 0, 1), 2);
        is("23 nine borrows not", x.fugue(9, 1, 5, 9, 1, 1, 0), 0);
        is("23 the longest", x.fugue(0, 8, 10, 9, 9, 0, 0), 72);
    }

    private static void year() {
        DebtChoir x = new DebtChoir();
        is("24 seed below", x.year(-1, 1, 0), OUTSIDE);
        is("24 seed above", x.year(10000, 1, 0), OUTSIDE);
        is("24 m below", x.year(0, 0, 0), OUTSIDE);
        is("24 m above", x.year(0, 100, 0), OUTSIDE);
        is("24 what below", x.year(0, 1, -1), OUTSIDE);
        is("24 what above", x.year(0, 1, 3), OUTSIDE);
        is("24 nobody", x.year(9999, 99, 0), 0);
        // seed 0: x is 74: 74 left over by 8 is 2: PIECE 9 left over by 6: 3
        x.singer(0, 0, 100);
        x.piece(3, 1000, 10, 4);
        is("24 sung", x.year(0, 1, 0), 60);
        is("24 sung off", x.year(0, 1, 2), 40);
        is("24 free", x.year(0, 1, 1), 0);
        // then 5624: PIECE 703 left over by 6: 1, and 28652: 4, SINGER 3581 left over by 8: 5
        // borrows 10 * (1 + 447 left over by 9: 6) = 70
        x.singer(5, 1, 0);
        is("24 one is free", x.year(0, 2, 1), 1);
        is("24 borrowed", x.year(0, 3, 0), 130);
        is("24 none is free", x.year(0, 3, 1), 0);
        is("24 nothing is done", x.told(11), 100);
        is("24 nobody sang", x.told(13), 0);
        // seed 1: 149: 5, SINGER 18 left over by 8: 2 borrows 10 * (1 + 2)
        x.singer(2, 2, 970);
        is("24 above 999", x.year(1, 1, 0), 1070);
        x.singer(2, 2, 969);
        is("24 999", x.year(1, 1, 0), 1099);
        // seed 3: 299: 3, an evening ends: 10 and 96 more
        is("24 an evening", x.year(3, 1, 0), 110 + 999);
        // seed 4: 374: 6, SINGER 46 left over by 8: 6, who is not there; seed 11: 899: 3
        is("24 hoarse", x.year(4, 1, 0), 1069);
        // seed 7: 599: 7, SINGER 9 left over by 8: 1 takes over from 74 left over by 8: 2
        x.singer(1, 1, 30);
        is("24 taken over", x.year(7, 1, 1), 2);
        x.singer(1, 1, 31);
        is("24 not taken over", x.year(7, 1, 1), 1);
        Due.write(x, "A");
        is("24 whatever the pad", x.year(7, 1, 0), 1100);
    }

    private static void image() {
        DebtChoir x = some();
        is("25 below", x.image(-1), OUTSIDE);
        is("25 above", x.image(2), OUTSIDE);
        is("25 kept", x.image(1), 1);
        is("25 the other was not", x.restore(0), STATE);
        is("25 again", x.image(1), 1);
    }

    private static void restore() {
        DebtChoir x = some();
        is("26 below", x.restore(-1), OUTSIDE);
        is("26 above", x.restore(2), OUTSIDE);
        is("26 was not", x.restore(1), STATE);
        x.seen(9, 3);
        Due.write(x, "C*.0");
        x.done();
        Due.write(x, "A");
        x.image(0);
        x.forget();
        x.seen(1, 1);
        x.seen(1, 1);
        x.leave(0);
        x.singer(7, 3, 9);
        x.piece(1, 3, 2, 1);
        Due.write(x, "B+1C*.");
        x.done();
        x.image(1);
        Due.write(x, "0.");
        is("26 back", x.restore(0), 1);
        is("26 the pad stays", x.told(0), 2);
        is("26 singers", x.told(1), 15);
        is("26 evenings", x.told(2), 1);
        is("26 sights", x.told(3), 1);
        is("26 rows", x.holds(-1), 4);
        is("26 debt", x.told(21), 190);
        is("26 hoarse", x.told(32), 1);
        is("26 sang", x.told(23), 1);
        is("26 needs", x.told(111), 1);
        is("26 bars", x.told(114), 20);
        is("26 pay", x.told(115), 2);
        is("26 the other", x.restore(1), 1);
        is("26 other singers", x.told(1), 142);
        is("26 other sights", x.told(3), 2);
        is("26 other bars", x.told(114), 2);
        is("26 and the first again", x.restore(0), 1);
        is("26 first again", x.told(1), 15);
    }

    private static void told() {
        DebtChoir x = some();
        Due.write(x, "C*0");
        x.done();
        Due.write(x, ".!");
        x.seen(1, 1);
        is("27 signs", x.told(0), 2);
        is("27 singers", x.told(1), 15);
        is("27 evenings", x.told(2), 0);
        is("27 sights", x.told(3), 1);
        int[] due = {1, 50, 1, 0, OUTSIDE};
        for (int detail = 0; detail < due.length; detail++) {
            is("27 alto " + detail, x.told(30 + detail), due[detail]);
        }
        is("27 sang", x.told(23), 1);
        int[] piece = {1, 1, 0, 0, 20, 2, OUTSIDE};
        for (int detail = 0; detail < piece.length; detail++) {
            is("27 piece " + detail, x.told(110 + detail), piece[detail]);
        }
        int[] outside = {-1, 4, 9, 14, 19, 50, 80, 83, 90, 99, 106, 109, 160, 1000};
        for (int what : outside) {
            is("27 told(" + what + ")", x.told(what), OUTSIDE);
        }
    }
}
