/**
 * "Calls that are refused answer, the first of these that fits: UNKNOWN,
 * OUTSIDE, NO, STATE, FULL .. They change nothing": each refusal of each
 * promise, each two that fit at once, and that all is as it was.
 */
public final class RefusalsTest {
    private static final int UNKNOWN = -1, OUTSIDE = -2, STATE = -3, FULL = -4, NO = -5, NONE = -6;
    private static final long GONE_OUTSIDE = -1000000000000000002L;
    private static final int LEAST = Integer.MIN_VALUE, MOST = Integer.MAX_VALUE;
    private static final Due DUE = new Due();
    private static final Twins TWINS = new Twins(DUE);

    /** A PAD that is done, one with a FAULT, one with an ACT that can not be, one with both. */
    private static final String FINE = "1A+1", FAULTY = "A+1B", BAD = "A+1Dx", BOTH = "DxB+1A+0";
    private static final String[] PADS = {"", FINE, FAULTY, BAD, BOTH};
    private static final int[] NO_SINGERS = {-1, 8, LEAST, MOST};
    private static final int[] NO_PIECES = {-1, 6, LEAST, MOST};

    public static void main(String[] args) {
        singer();
        leave();
        piece();
        say();
        judge();
        behind();
        owed();
        freed();
        done();
        nights();
        programme();
        ruin();
        seats();
        rings();
        seen();
        holds();
        ask();
        fugue();
        year();
        image();
        restore();
        told();
        DUE.end();
    }

    /** A, B soprani, C alto, D a FREE bass, G a tenor of 999; A is HOARSE, B sang; image 0 is kept. */
    private static DebtChoir some() {
        DebtChoir x = new DebtChoir();
        x.singer(0, 0, 100);
        x.singer(1, 0, 200);
        x.singer(2, 1, 50);
        x.piece(0, 1000, 10, 3);
        x.piece(1, 100, 20, 2);
        x.piece(2, 3, 1, 1);
        x.seen(9, 3);
        x.image(0);
        x.singer(3, 3, 0);
        x.singer(6, 2, 999);
        Due.write(x, ".A*0");
        x.done();
        return x;
    }

    private static Twins.Made with(String text) {
        return () -> {
            DebtChoir x = some();
            Due.write(x, text);
            return x;
        };
    }

    private static Twins.Made fullPad(String end) {
        return with("0".repeat(60 - end.length()) + end);
    }

    private static DebtChoir fullSights() {
        DebtChoir x = some();
        for (int i = 0; i < 7; i++) {
            x.seen(2 + i % 2, 3);
        }
        return x;
    }

    /** Refused whatever is on the PAD. */
    private static void always(String what, Twins.Call call, long refusal) {
        for (String text : PADS) {
            TWINS.refused(what + " of \"" + text + "\"", with(text), call, refusal);
        }
    }

    private static void singer() {
        for (int s : NO_SINGERS) {
            always("2 there is no such number", x -> x.singer(s, 0, 0), UNKNOWN);
            always("2 unknown ahead of outside: voice", x -> x.singer(s, 4, 0), UNKNOWN);
            always("2 unknown ahead of outside: debt", x -> x.singer(s, 0, -1), UNKNOWN);
        }
        for (int s = 0; s < 8; s++) {
            int singer = s;
            for (int wrong : new int[] {-1, 4, LEAST, MOST}) {
                always("2 voice " + wrong, x -> x.singer(singer, wrong, 5), OUTSIDE);
            }
            for (int wrong : new int[] {-1, 1000, LEAST, MOST}) {
                always("2 debt " + wrong, x -> x.singer(singer, 2, wrong), OUTSIDE);
            }
        }
    }

    private static void leave() {
        for (int s : NO_SINGERS) {
            always("3 there is no such number", x -> x.leave(s), UNKNOWN);
        }
        for (int s : new int[] {4, 5, 7}) {
            always("3 he was not", x -> x.leave(s), UNKNOWN);
        }
    }

    private static void piece() {
        for (int p : NO_PIECES) {
            always("4 there is no such number", x -> x.piece(p, 0, 0, 0), UNKNOWN);
            always("4 unknown ahead of outside: needs", x -> x.piece(p, 4, 0, 0), UNKNOWN);
            always("4 unknown ahead of outside: bars", x -> x.piece(p, 0, 61, 0), UNKNOWN);
            always("4 unknown ahead of outside: pay", x -> x.piece(p, 0, 0, 10), UNKNOWN);
        }
        for (int p = 0; p < 6; p++) {
            int piece = p;
            for (int wrong : new int[] {-1, -1000, 4, 40, 400, 4000, 3334, 3343, 3433, 4333, 9, 9999, 10000, 13333,
                    LEAST, MOST}) {
                always("4 needs " + wrong, x -> x.piece(piece, wrong, 7, 7), OUTSIDE);
            }
            for (int wrong : new int[] {-1, 61, LEAST, MOST}) {
                always("4 bars " + wrong, x -> x.piece(piece, 2222, wrong, 7), OUTSIDE);
            }
            for (int wrong : new int[] {-1, 10, LEAST, MOST}) {
                always("4 pay " + wrong, x -> x.piece(piece, 2222, 7, wrong), OUTSIDE);
            }
        }
    }

    private static void say() {
        for (int sign : new int[] {32, 127, 0, -1, 128, 48 + 256, LEAST, MOST}) {
            always("5 sign " + sign, x -> x.say(sign), OUTSIDE);
            TWINS.refused("5 outside ahead of full: " + sign, fullPad(""), x -> x.say(sign), OUTSIDE);
        }
        for (int sign : new int[] {33, 48, 126}) {
            TWINS.refused("5 full: " + sign, fullPad(""), x -> x.say(sign), FULL);
            TWINS.refused("5 full of a fault: " + sign, fullPad("!"), x -> x.say(sign), FULL);
            TWINS.refused("5 full, more must come: " + sign, fullPad("A+"), x -> x.say(sign), FULL);
            TWINS.refused("5 full, one can not be: " + sign, fullPad("Dx"), x -> x.say(sign), FULL);
        }
    }

    private static void judge() {
        for (int what : new int[] {-1, 3, LEAST, MOST}) {
            always("8 outside, ahead of no and of state: " + what, x -> x.judge(what), OUTSIDE);
        }
        for (int w = 0; w < 3; w++) {
            int what = w;
            TWINS.refused("8 no", with(FAULTY), x -> x.judge(what), NO);
            TWINS.refused("8 no ahead of state", with(BOTH), x -> x.judge(what), NO);
        }
        TWINS.refused("8 state", with(BAD), x -> x.judge(2), STATE);
        TWINS.asked("8 the act is told", with(BAD), x -> x.judge(0), 1);
        TWINS.asked("8 why is told", with(BAD), x -> x.judge(1), 2);
        TWINS.asked("8 no act", with(FINE), x -> x.judge(0), NONE);
        TWINS.asked("8 no why", with(FINE), x -> x.judge(1), NONE);
        TWINS.asked("8 pieces", with(FINE), x -> x.judge(2), 1);
    }

    private static void behind() {
        for (int s : new int[] {-1, 8, 4, 5, 7, LEAST, MOST}) {
            always("9 unknown, ahead of no and of state", x -> x.behind(s, 0), UNKNOWN);
            always("9 unknown ahead of outside", x -> x.behind(s, 3), UNKNOWN);
        }
        for (int what : new int[] {-1, 3, LEAST, MOST}) {
            always("9 outside, ahead of no and of state: " + what, x -> x.behind(0, what), OUTSIDE);
        }
        for (int w = 0; w < 3; w++) {
            int what = w;
            TWINS.refused("9 no", with(FAULTY), x -> x.behind(0, what), NO);
            TWINS.refused("9 no ahead of state", with(BOTH), x -> x.behind(0, what), NO);
            TWINS.refused("9 state", with(BAD), x -> x.behind(0, what), STATE);
        }
        TWINS.asked("9 debt", with(FINE), x -> x.behind(0, 0), 120);
    }

    private static void owed() {
        for (int what : new int[] {-1, 2, LEAST, MOST}) {
            always("10 outside, ahead of no and of state: " + what, x -> x.owed(what), OUTSIDE);
        }
        for (int w = 0; w < 2; w++) {
            int what = w;
            TWINS.refused("10 no", with(FAULTY), x -> x.owed(what), NO);
            TWINS.refused("10 no ahead of state", with(BOTH), x -> x.owed(what), NO);
            TWINS.refused("10 state", with(BAD), x -> x.owed(what), STATE);
        }
        TWINS.asked("10 debts", with(FINE), x -> x.owed(0), 120 + 190 + 15 + 0 + 999);
        TWINS.asked("10 sung off", with(FINE), x -> x.owed(1), 40);
    }

    private static void freed() {
        for (int what : new int[] {-1, 2, LEAST, MOST}) {
            always("11 outside, ahead of no and of state: " + what, x -> x.freed(what), OUTSIDE);
        }
        for (int w = 0; w < 2; w++) {
            int what = w;
            TWINS.refused("11 no", with(FAULTY), x -> x.freed(what), NO);
            TWINS.refused("11 no ahead of state", with(BOTH), x -> x.freed(what), NO);
            TWINS.refused("11 state", with(BAD), x -> x.freed(what), STATE);
            TWINS.refused("11 state, though somebody is free ahead of it", with("AxDx"), x -> x.freed(what), STATE);
            TWINS.asked("11 none", with(FINE), x -> x.freed(what), NONE);
        }
    }

    private static void done() {
        TWINS.refused("12 no", with(FAULTY), x -> x.done(), NO);
        TWINS.refused("12 no ahead of state", with(BOTH), x -> x.done(), NO);
        TWINS.refused("12 state", with(BAD), x -> x.done(), STATE);
        TWINS.refused("12 state at the last act", with("1.A*B=CDx"), x -> x.done(), STATE);
        TWINS.refused("12 no, more must come", with("1.A*B=CA"), x -> x.done(), NO);
        TWINS.asked("12 an empty pad", with(""), x -> x.done(), 0);
    }

    private static void nights() {
        for (int s : new int[] {-1, 8, 4, 5, 7, LEAST, MOST}) {
            always("14 unknown", x -> x.nights(s, 0), UNKNOWN);
            always("14 unknown ahead of outside", x -> x.nights(s, 2), UNKNOWN);
        }
        for (int what : new int[] {-1, 2, LEAST, MOST}) {
            always("14 outside: " + what, x -> x.nights(0, what), OUTSIDE);
            always("14 outside, of who is free: " + what, x -> x.nights(3, what), OUTSIDE);
            always("14 outside, of who is never free: " + what, x -> x.nights(6, what), OUTSIDE);
        }
        always("14 never", x -> x.nights(6, 0), NONE);
        always("14 never, which", x -> x.nights(6, 1), NONE);
    }

    private static void programme() {
        for (int v : new int[] {-1, 100, LEAST, MOST}) {
            always("15 bars " + v, x -> x.programme(v, 0), OUTSIDE);
        }
        for (int what : new int[] {-1, 2, LEAST, MOST}) {
            always("15 what " + what, x -> x.programme(30, what), OUTSIDE);
        }
        always("15 how much", x -> x.programme(30, 0), 30 + 40);
    }

    private static void ruin() {
        for (int p : NO_PIECES) {
            always("16 unknown", x -> x.ruin(p, 0), UNKNOWN);
            always("16 unknown ahead of outside", x -> x.ruin(p, 2), UNKNOWN);
        }
        for (int what : new int[] {-1, 2, LEAST, MOST}) {
            always("16 outside: " + what, x -> x.ruin(1, what), OUTSIDE);
            always("16 outside, of which there are too few: " + what, x -> x.ruin(2, what), OUTSIDE);
        }
        always("16 too few", x -> x.ruin(2, 0), NONE);
        always("16 too few, who", x -> x.ruin(2, 1), NONE);
    }

    private static void seats() {
        for (int k : new int[] {-1, 7, LEAST, MOST}) {
            always("17 seats " + k, x -> x.seats(k, 123456, 0), OUTSIDE);
        }
        for (int bids : new int[] {-1, 1000000, LEAST, MOST}) {
            always("17 bids " + bids, x -> x.seats(3, bids, 0), OUTSIDE);
        }
        for (int what : new int[] {-1, 2, LEAST, MOST}) {
            always("17 what " + what, x -> x.seats(3, 123456, what), OUTSIDE);
        }
    }

    private static void rings() {
        int[] wrong = {-1, -123, 0, 1, 122, 124, 133, 223, 1123, 1233, 1234, 4123, 4012, 3333, 3211, 9999, 10123,
            12301, 100123, LEAST, MOST};
        for (int rank : wrong) {
            for (int w = 0; w < 2; w++) {
                int what = w;
                TWINS.refused("18 of 0: " + rank, with(""), x -> x.rings(rank, 123, 123, 123, what), OUTSIDE);
                TWINS.refused("18 of 1: " + rank, with(""), x -> x.rings(123, rank, 123, 123, what), OUTSIDE);
                TWINS.refused("18 of 2: " + rank, with(""), x -> x.rings(123, 123, rank, 123, what), OUTSIDE);
                TWINS.refused("18 of 3: " + rank, with(""), x -> x.rings(123, 123, 123, rank, what), OUTSIDE);
            }
        }
        for (int what : new int[] {-1, 2, LEAST, MOST}) {
            always("18 what " + what, x -> x.rings(123, 1230, 2301, 3012, what), OUTSIDE);
        }
    }

    private static void seen() {
        for (int p : new int[] {-1, 0, 10, LEAST, MOST}) {
            always("19 pay " + p, x -> x.seen(p, 3), OUTSIDE);
            TWINS.refused("19 outside ahead of full: pay " + p, RefusalsTest::fullSights, x -> x.seen(p, 3), OUTSIDE);
        }
        for (int s : new int[] {-1, 19, LEAST, MOST}) {
            always("19 sum " + s, x -> x.seen(3, s), OUTSIDE);
            TWINS.refused("19 outside ahead of full: sum " + s, RefusalsTest::fullSights, x -> x.seen(3, s), OUTSIDE);
        }
        TWINS.refused("19 full", RefusalsTest::fullSights, x -> x.seen(1, 0), FULL);
        TWINS.refused("19 full, though it was seen", RefusalsTest::fullSights, x -> x.seen(9, 3), FULL);
    }

    private static void holds() {
        for (int i : new int[] {-2, -3, LEAST, 4, 5, 99, 100, MOST}) {
            always("21 no row " + i, x -> x.holds(i), NONE);
        }
        always("21 how many", x -> x.holds(-1), 4);
    }

    private static void ask() {
        Twins.Made none = () -> {
            DebtChoir x = some();
            x.seen(9, 4);
            return x;
        };
        for (int what : new int[] {-1, 2, LEAST, MOST}) {
            always("22 what " + what, x -> x.ask(what), OUTSIDE);
            TWINS.refused("22 outside, and no row fits: " + what, none, x -> x.ask(what), OUTSIDE);
        }
        TWINS.asked("22 no row fits", none, x -> x.ask(0), NONE);
        TWINS.asked("22 no row fits, how many", none, x -> x.ask(1), NONE);
    }

    private static void fugue() {
        int[] most = {9, 8, 10, 9, 9, 1, 1};
        for (int i = 0; i < most.length; i++) {
            for (int wrong : new int[] {-1, most[i] + 1, LEAST, MOST}) {
                for (int others = 0; others < 2; others++) {
                    int[] v = new int[7];
                    for (int j = 0; j < 7 && others == 1; j++) {
                        v[j] = most[j];
                    }
                    v[i] = wrong;
                    TWINS.refused("23 number " + i + " is " + wrong, with(""),
                            x -> x.fugue(v[0], v[1], v[2], v[3], v[4], v[5], v[6]), GONE_OUTSIDE);
                }
            }
        }
    }

    private static void year() {
        for (int seed : new int[] {-1, 10000, LEAST, MOST}) {
            always("24 seed " + seed, x -> x.year(seed, 9, 0), OUTSIDE);
        }
        for (int m : new int[] {-1, 0, 100, LEAST, MOST}) {
            always("24 acts " + m, x -> x.year(5, m, 0), OUTSIDE);
        }
        for (int what : new int[] {-1, 3, LEAST, MOST}) {
            always("24 what " + what, x -> x.year(5, 9, what), OUTSIDE);
        }
    }

    private static void image() {
        for (int k : new int[] {-1, 2, LEAST, MOST}) {
            always("25 image " + k, x -> x.image(k), OUTSIDE);
        }
    }

    private static void restore() {
        for (int k : new int[] {-1, 2, LEAST, MOST}) {
            always("26 image " + k, x -> x.restore(k), OUTSIDE);
            TWINS.refused("26 nothing is kept: " + k, DebtChoir::new, x -> x.restore(k), OUTSIDE);
        }
        always("26 it was not", x -> x.restore(1), STATE);
        TWINS.refused("26 nothing was", DebtChoir::new, x -> x.restore(0), STATE);
    }

    private static void told() {
        for (int what : new int[] {-1, 4, 9, 14, 50, 53, 80, 90, 99, 106, 109, 156, 160, LEAST, MOST}) {
            always("27 what " + what, x -> x.told(what), OUTSIDE);
        }
    }
}
