/**
 * A choir of debtors: who can not pay sings it off. The document in
 * ../shared/DOC.md says what each call answers, as promises 1 to 27; the
 * words in capitals here are its words.
 *
 * <p>All rows are made in the constructors and used again: no call makes an
 * object, as all calls of a run live in one room.
 */
public final class DebtChoir {
    public static final int UNKNOWN = -1, OUTSIDE = -2, STATE = -3, FULL = -4, NO = -5, NONE = -6;
    public static final long GONE = -1000000000000000000L;

    private static final int SINGERS = 8, PIECES = 6, VOICES = 4;
    private static final int MOST_DEBT = 999, LAST_EVENING = 99;
    private static final int MOST_BARS = 60, MOST_PAY = 9, MOST_NEED = 3;

    private final Choir choir;
    private final Sights sights;
    private final Pad pad;
    private final Trial trial;
    private final Nights row;
    private final Rings circle;
    private final Fugue borrower;
    private final Image firstImage;
    private final Image secondImage;

    public DebtChoir() {
        choir = new Choir();
        sights = new Sights();
        pad = new Pad();
        trial = new Trial();
        row = new Nights();
        circle = new Rings();
        borrower = new Fugue();
        firstImage = new Image();
        secondImage = new Image();
    }

    // ---- 1 singers, pieces

    public int singer(int singer, int voice, int debt) {
        if (!within(singer, 0, SINGERS - 1)) {
            return UNKNOWN;
        }
        if (!within(voice, 0, VOICES - 1) || !within(debt, 0, MOST_DEBT)) {
            return OUTSIDE;
        }
        choir.come(singer, voice, debt);
        return Integer.bitCount(choir.there);
    }

    public int leave(int singer) {
        if (!choir.has(singer)) {
            return UNKNOWN;
        }
        choir.go(singer);
        return Integer.bitCount(choir.there);
    }

    public int piece(int piece, int needs, int bars, int pay) {
        if (!within(piece, 0, PIECES - 1)) {
            return UNKNOWN;
        }
        if (!areNeeds(needs) || !within(bars, 0, MOST_BARS) || !within(pay, 0, MOST_PAY)) {
            return OUTSIDE;
        }
        int barsAhead = choir.barsOf(piece);
        choir.write(piece, needs, bars, pay);
        return barsAhead;
    }

    public int say(int sign) {
        if (!within(sign, Pad.LEAST_SIGN, Pad.MOST_SIGN)) {
            return OUTSIDE;
        }
        return pad.add(sign) ? pad.count : FULL;
    }

    public int wipe() {
        int ahead = pad.count;
        pad.count = 0;
        return ahead;
    }

    public int fault() {
        return pad.faultPlace();
    }

    // ---- 2 evenings

    public int judge(int what) {
        if (!within(what, 0, 2)) {
            return OUTSIDE;
        }
        int refusal = trial.play(pad, choir);
        if (refusal == NO || (refusal == STATE && what == 2)) {
            return refusal;
        }
        if (what == 0) {
            return trial.badAct;
        }
        return what == 1 ? trial.why : trial.piecesSung;
    }

    public int behind(int singer, int what) {
        if (!choir.has(singer)) {
            return UNKNOWN;
        }
        if (!within(what, 0, 2)) {
            return OUTSIDE;
        }
        int refusal = trial.play(pad, choir);
        if (refusal != 0) {
            return refusal;
        }
        if (what == 0) {
            return trial.choir.debtOf(singer);
        }
        return bit(what == 1 ? trial.choir.hoarse : trial.choir.sang, singer);
    }

    public int owed(int what) {
        if (!within(what, 0, 1)) {
            return OUTSIDE;
        }
        int refusal = trial.play(pad, choir);
        if (refusal != 0) {
            return refusal;
        }
        return what == 0 ? trial.choir.allDebts() : trial.choir.sungOff;
    }

    public int freed(int what) {
        if (!within(what, 0, 1)) {
            return OUTSIDE;
        }
        int refusal = trial.play(pad, choir);
        if (refusal != 0) {
            return refusal;
        }
        return what == 0 ? trial.freeingAct : trial.firstFreed;
    }

    public int done() {
        int refusal = trial.play(pad, choir);
        if (refusal != 0) {
            return refusal;
        }
        choir.copyFrom(trial.choir);
        pad.count = 0;
        return trial.acts;
    }

    public int may() {
        int pieces = 0;
        for (int piece = 0; piece < PIECES; piece++) {
            if (choir.canBeSung(piece)) {
                pieces |= 1 << piece;
            }
        }
        return pieces;
    }

    // ---- 3 programmes, seats, rings

    public int nights(int singer, int what) {
        if (!choir.has(singer)) {
            return UNKNOWN;
        }
        if (!within(what, 0, 1)) {
            return OUTSIDE;
        }
        row.find(choir, singer);
        return what == 0 ? row.fewest : row.firstPiece;
    }

    public int programme(int v, int what) {
        if (!within(v, 0, 99) || !within(what, 0, 1)) {
            return OUTSIDE;
        }
        int most = 0;
        int which = 0;
        for (int set = 0; set < 1 << PIECES; set++) {
            int pays = choir.payOfSet(set);
            if (choir.barsOfSet(set) <= v && pays > most) {
                most = pays;
                which = set;
            }
        }
        return what == 0 ? most : which;
    }

    public int ruin(int piece, int what) {
        if (!within(piece, 0, PIECES - 1)) {
            return UNKNOWN;
        }
        if (!within(what, 0, 1)) {
            return OUTSIDE;
        }
        int ruined = 0;
        for (int voice = 0; voice < VOICES; voice++) {
            int missing = choir.needOf(piece, voice) - Integer.bitCount(choir.readyIn(voice));
            int chosen = choir.leastFree(voice, missing);
            if (Integer.bitCount(chosen) < missing) {
                return NONE;
            }
            ruined |= chosen;
        }
        return what == 0 ? Integer.bitCount(ruined) : ruined;
    }

    public int seats(int k, int bids, int what) {
        if (!within(k, 0, 6) || !within(bids, 0, 999999) || !within(what, 0, 1)) {
            return OUTSIDE;
        }
        int seated = 0;
        int price = 0;
        for (int creditor = 0; creditor < 6; creditor++) {
            int place = placeOfBid(bids, creditor);
            if (place < k) {
                seated |= 1 << creditor;
            } else if (place == k) {
                price = digitOf(bids, 5 - creditor);
            }
        }
        return what == 0 ? seated : price;
    }

    public int rings(int a, int b, int c, int d, int what) {
        if (!areRanks(a) || !areRanks(b) || !areRanks(c) || !areRanks(d) || !within(what, 0, 1)) {
            return OUTSIDE;
        }
        circle.start(a, b, c, d);
        circle.swap();
        return what == 0 ? circle.partsAsDigits() : circle.countOwn();
    }

    // ---- 4 who owed what, fugues

    public int seen(int p, int s) {
        if (!within(p, 1, 9) || !within(s, 0, 18)) {
            return OUTSIDE;
        }
        return sights.add(p, s) ? sights.count : FULL;
    }

    public int forget() {
        int ahead = sights.count;
        sights.count = 0;
        return ahead;
    }

    public int holds(int i) {
        sights.findRows();
        return i == -1 ? sights.found : sights.rowAt(i);
    }

    public int ask(int what) {
        if (!within(what, 0, 1)) {
            return OUTSIDE;
        }
        sights.findRows();
        if (sights.found == 0) {
            return NONE;
        }
        int best = 1;
        int fewest = sights.mostLeft(1);
        for (int pay = 2; pay <= 9; pay++) {
            int most = sights.mostLeft(pay);
            if (most < fewest) {
                best = pay;
                fewest = most;
            }
        }
        return what == 0 ? best : fewest;
    }

    public long fugue(int d, int m, int t, int g, int c, int what, int part) {
        if (!within(d, 0, 9) || !within(m, 0, 8) || !within(t, 0, 10) || !within(g, 0, 9)
                || !within(c, 0, 9) || !within(what, 0, 1) || !within(part, 0, 1)) {
            return GONE + OUTSIDE;
        }
        borrower.start(c);
        for (int evening = 0; evening < m; evening++) {
            borrower.evening(t, g);
        }
        if (what == 1) {
            return bit(borrower.borrowing, d);
        }
        long upper = borrower.bestOf(d);
        long common = commonDivisor(upper, borrower.unit);
        return (part == 0 ? upper : borrower.unit) / common;
    }

    public int year(int seed, int m, int what) {
        if (!within(seed, 0, 9999) || !within(m, 1, 99) || !within(what, 0, 2)) {
            return OUTSIDE;
        }
        trial.start(choir);
        int x = seed;
        for (int act = 0; act < m; act++) {
            x = (75 * x + 74) % 65537;
            trial.draw(x);
        }
        if (what == 0) {
            return trial.choir.allDebts();
        }
        return what == 1 ? Integer.bitCount(trial.choir.freeSingers()) : trial.choir.sungOff;
    }

    public int image(int k) {
        if (!within(k, 0, 1)) {
            return OUTSIDE;
        }
        Image image = k == 0 ? firstImage : secondImage;
        image.choir.copyFrom(choir);
        image.sights.copyFrom(sights);
        image.kept = true;
        return 1;
    }

    public int restore(int k) {
        if (!within(k, 0, 1)) {
            return OUTSIDE;
        }
        Image image = k == 0 ? firstImage : secondImage;
        if (!image.kept) {
            return STATE;
        }
        choir.copyFrom(image.choir);
        sights.copyFrom(image.sights);
        return 1;
    }

    public int told(int what) {
        if (within(what, 100, 100 + 10 * PIECES - 1)) {
            return tellPiece((what - 100) / 10, what % 10);
        }
        if (within(what, 10, 10 * SINGERS + 9)) {
            return tellSinger(what / 10 - 1, what % 10);
        }
        switch (what) {
            case 0:
                return pad.count;
            case 1:
                return choir.there;
            case 2:
                return choir.evenings;
            case 3:
                return sights.count;
            default:
                return OUTSIDE;
        }
    }

    private int tellSinger(int singer, int detail) {
        if (!choir.has(singer)) {
            return OUTSIDE;
        }
        switch (detail) {
            case 0:
                return choir.voiceOf(singer);
            case 1:
                return choir.debtOf(singer);
            case 2:
                return bit(choir.hoarse, singer);
            case 3:
                return bit(choir.sang, singer);
            default:
                return OUTSIDE;
        }
    }

    private int tellPiece(int piece, int detail) {
        if (within(detail, 0, VOICES - 1)) {
            return choir.needOf(piece, detail);
        }
        if (detail == VOICES) {
            return choir.barsOf(piece);
        }
        return detail == VOICES + 1 ? choir.payOf(piece) : OUTSIDE;
    }

    /** How many bids go ahead of this creditor's. */
    private static int placeOfBid(int bids, int creditor) {
        int own = digitOf(bids, 5 - creditor);
        int ahead = 0;
        for (int other = 0; other < 6; other++) {
            int bid = digitOf(bids, 5 - other);
            if (bid > own || (bid == own && other < creditor)) {
                ahead++;
            }
        }
        return ahead;
    }

    private static boolean areNeeds(int needs) {
        if (!within(needs, 0, 9999)) {
            return false;
        }
        for (int place = 0; place < VOICES; place++) {
            if (digitOf(needs, place) > MOST_NEED) {
                return false;
            }
        }
        return true;
    }

    /** Four digits 0 to 3, each once. */
    private static boolean areRanks(int ranks) {
        if (!within(ranks, 0, 9999)) {
            return false;
        }
        int met = 0;
        for (int place = 0; place < 4; place++) {
            met |= 1 << digitOf(ranks, place);
        }
        return met == 15;
    }

    /** The digit of a number of at most six digits; place 0 is the lowest. */
    private static int digitOf(int number, int place) {
        int left = number;
        for (int i = 0; i < place; i++) {
            left /= 10;
        }
        return left % 10;
    }

    private static boolean within(int number, int least, int most) {
        return number >= least && number <= most;
    }

    private static int bit(int set, int place) {
        return (set >> place) & 1;
    }

    /** 1 at least, so that it may divide. */
    private static long commonDivisor(long a, long b) {
        long greater = Math.abs(a);
        long lesser = Math.abs(b);
        for (int step = 0; step < 1000 && lesser != 0; step++) {
            long rest = greater % lesser;
            greater = lesser;
            lesser = rest;
        }
        return Math.max(1, greater);
    }

    /** SINGERS, PIECES and the evening: what ACTS need and change. Sets of SINGERS are bits. */
    private static final class Choir {
        int there;
        int hoarse;
        int sang;
        int evenings;
        /** Since all was copied from another. */
        int sungOff;
        private final int[] voices = new int[SINGERS];
        private final int[] debts = new int[SINGERS];
        /** By PIECE and VOICE. */
        private final int[] needs = new int[PIECES * VOICES];
        private final int[] bars = new int[PIECES];
        private final int[] pays = new int[PIECES];

        void copyFrom(Choir other) {
            there = other.there;
            hoarse = other.hoarse;
            sang = other.sang;
            evenings = other.evenings;
            sungOff = 0;
            System.arraycopy(other.voices, 0, voices, 0, SINGERS);
            System.arraycopy(other.debts, 0, debts, 0, SINGERS);
            System.arraycopy(other.needs, 0, needs, 0, PIECES * VOICES);
            System.arraycopy(other.bars, 0, bars, 0, PIECES);
            System.arraycopy(other.pays, 0, pays, 0, PIECES);
        }

        boolean has(int singer) {
            return singer >= 0 && singer < SINGERS && (there >> singer & 1) == 1;
        }

        void come(int singer, int voice, int debt) {
            if (within(singer, 0, SINGERS - 1)) {
                there |= 1 << singer;
                hoarse &= ~(1 << singer);
                sang &= ~(1 << singer);
                voices[singer] = voice;
                debts[singer] = debt;
            }
        }

        void go(int singer) {
            if (has(singer)) {
                come(singer, 0, 0);
                there &= ~(1 << singer);
            }
        }

        int voiceOf(int singer) {
            return has(singer) ? voices[singer] : NONE;
        }

        int debtOf(int singer) {
            return has(singer) ? debts[singer] : 0;
        }

        private void owe(int singer, int debt) {
            if (has(singer)) {
                debts[singer] = debt;
            }
        }

        int allDebts() {
            int all = 0;
            for (int singer = 0; singer < SINGERS; singer++) {
                all += debtOf(singer);
            }
            return all;
        }

        int freeSingers() {
            int free = 0;
            for (int singer = 0; singer < SINGERS; singer++) {
                if (debts[singer] == 0) {
                    free |= 1 << singer;
                }
            }
            return free & there;
        }

        void write(int piece, int need, int bar, int pay) {
            if (within(piece, 0, PIECES - 1)) {
                for (int voice = 0; voice < VOICES; voice++) {
                    needs[piece * VOICES + voice] = digitOf(need, VOICES - 1 - voice);
                }
                bars[piece] = bar;
                pays[piece] = pay;
            }
        }

        int needOf(int piece, int voice) {
            boolean known = within(piece, 0, PIECES - 1) && within(voice, 0, VOICES - 1);
            return known ? needs[piece * VOICES + voice] : 0;
        }

        int barsOf(int piece) {
            return within(piece, 0, PIECES - 1) ? bars[piece] : 0;
        }

        int payOf(int piece) {
            return within(piece, 0, PIECES - 1) ? pays[piece] : 0;
        }

        /** What one who sings in it has sung off. */
        int worthOf(int piece) {
            return barsOf(piece) * payOf(piece);
        }

        int barsOfSet(int set) {
            int all = 0;
            for (int piece = 0; piece < PIECES; piece++) {
                all += bit(set, piece) * barsOf(piece);
            }
            return all;
        }

        int payOfSet(int set) {
            int all = 0;
            for (int piece = 0; piece < PIECES; piece++) {
                for (int voice = 0; voice < VOICES; voice++) {
                    all += bit(set, piece) * worthOf(piece) * needOf(piece, voice);
                }
            }
            return all;
        }

        /** Who of this VOICE is neither HOARSE nor sang this evening, in DEBT or not. */
        private int withBreath(int voice) {
            int ready = 0;
            for (int singer = 0; singer < SINGERS; singer++) {
                if (voices[singer] == voice) {
                    ready |= 1 << singer;
                }
            }
            return ready & there & ~hoarse & ~sang;
        }

        /** Who of this VOICE can sing now. */
        int readyIn(int voice) {
            return withBreath(voice) & ~freeSingers();
        }

        /** The least SINGERS that could sing, were they not FREE: so many, or all that there are. */
        int leastFree(int voice, int many) {
            int free = withBreath(voice) & freeSingers();
            int chosen = 0;
            for (int singer = 0; singer < SINGERS; singer++) {
                if (bit(free, singer) == 1 && Integer.bitCount(chosen) < many) {
                    chosen |= 1 << singer;
                }
            }
            return chosen;
        }

        boolean canBeSung(int piece) {
            for (int voice = 0; voice < VOICES; voice++) {
                if (Integer.bitCount(readyIn(voice)) < needOf(piece, voice)) {
                    return false;
                }
            }
            return true;
        }

        /** Who of these owes most, the least such SINGER; NONE. */
        private int deepestOf(int ready) {
            int deepest = NONE;
            for (int singer = 0; singer < SINGERS; singer++) {
                if (bit(ready, singer) == 1 && debtOf(singer) > debtOf(deepest)) {
                    deepest = singer;
                }
            }
            return deepest;
        }

        // The ACTS: each answers 0, or why it can not be.

        int sing(int piece) {
            if (!canBeSung(piece)) {
                return 4;
            }
            for (int voice = 0; voice < VOICES; voice++) {
                for (int i = 0; i < needOf(piece, voice); i++) {
                    singOff(deepestOf(readyIn(voice)), worthOf(piece));
                }
            }
            return 0;
        }

        private void singOff(int singer, int worth) {
            if (has(singer)) {
                int less = Math.min(worth, debtOf(singer));
                owe(singer, debtOf(singer) - less);
                sungOff += less;
                sang |= 1 << singer;
            }
        }

        int borrow(int singer, int sum) {
            if (!has(singer)) {
                return 1;
            }
            if (debtOf(singer) + sum > MOST_DEBT) {
                return 3;
            }
            owe(singer, debtOf(singer) + sum);
            return 0;
        }

        int turnHoarse(int singer) {
            if (!has(singer)) {
                return 1;
            }
            hoarse ^= 1 << singer;
            return 0;
        }

        int takeOver(int from, int to) {
            if (!has(from) || !has(to)) {
                return 1;
            }
            int sum = debtOf(from);
            if (from == to || sum == 0) {
                return 2;
            }
            if (debtOf(to) + sum > MOST_DEBT) {
                return 3;
            }
            owe(to, debtOf(to) + sum);
            owe(from, 0);
            return 0;
        }

        int letGo(int singer) {
            if (!has(singer)) {
                return 1;
            }
            if (debtOf(singer) == 0) {
                return 2;
            }
            owe(singer, 0);
            return 0;
        }

        int endEvening() {
            if (evenings >= LAST_EVENING) {
                return 5;
            }
            for (int singer = 0; singer < SINGERS; singer++) {
                if (bit(hoarse, singer) == 1 || bit(sang, singer) == 0) {
                    int debt = debtOf(singer);
                    owe(singer, Math.min(MOST_DEBT, debt + debt / 10));
                }
            }
            sang = 0;
            evenings++;
            return 0;
        }
    }

    /** The PAD: a text of ACTS, each of one to three signs. */
    private static final class Pad {
        static final int LEAST_SIGN = 33, MOST_SIGN = 126;
        static final int ROOM = 60;
        int count;
        private final int[] signs = new int[ROOM];

        boolean add(int sign) {
            if (!within(count, 0, ROOM - 1)) {
                return false;
            }
            signs[count] = sign;
            count++;
            return true;
        }

        /** 0, which is no sign, where nothing stands. */
        int signAt(int place) {
            return within(place, 0, ROOM - 1) && place < count ? signs[place] : 0;
        }

        static boolean isPiece(int sign) {
            return within(sign, '0', '5');
        }

        static boolean isLetter(int sign) {
            return within(sign, 'A', 'H');
        }

        /** How many signs an ACT has that begins so. */
        static int lengthOf(int sign, int mark) {
            if (!isLetter(sign)) {
                return 1;
            }
            return mark == '+' || mark == '=' ? 3 : 2;
        }

        private static boolean isMark(int sign) {
            return sign == '+' || sign == '*' || sign == '=' || sign == 'x';
        }

        /** The first sign that can not stand in the ACT that begins at this place; NONE. */
        private int faultIn(int start) {
            int sign = signAt(start);
            if (isPiece(sign) || sign == '.') {
                return NONE;
            }
            if (!isLetter(sign)) {
                return start;
            }
            int mark = signAt(start + 1);
            if (!isMark(mark)) {
                return start + 1;
            }
            int last = signAt(start + 2);
            if ((mark == '+' && !within(last, '1', '9')) || (mark == '=' && !isLetter(last))) {
                return start + 2;
            }
            return NONE;
        }

        int faultPlace() {
            int place = 0;
            for (int act = 0; act < ROOM && place < count; act++) {
                int wrong = faultIn(place);
                if (wrong != NONE) {
                    return wrong;
                }
                place += lengthOf(signAt(place), signAt(place + 1));
            }
            return NONE;
        }
    }

    /** A copy of the CHOIR on which ACTS are tried, and what is told of them. */
    private static final class Trial {
        final Choir choir = new Choir();
        int acts;
        int badAct;
        int why;
        int piecesSung;
        int freeingAct;
        int firstFreed;

        void start(Choir from) {
            choir.copyFrom(from);
            acts = 0;
            badAct = NONE;
            why = NONE;
            piecesSung = 0;
            freeingAct = NONE;
            firstFreed = NONE;
        }

        /** The ACTS up to the first that can not be: 0, or NO for a FAULT, or STATE for such an ACT. */
        int play(Pad pad, Choir from) {
            start(from);
            if (pad.faultPlace() != NONE) {
                return NO;
            }
            int place = 0;
            while (acts < Pad.ROOM && place < pad.count) {
                int freeAhead = choir.freeSingers();
                int reason = act(pad.signAt(place), pad.signAt(place + 1), pad.signAt(place + 2));
                if (reason != 0) {
                    badAct = acts;
                    why = reason;
                    return STATE;
                }
                noteFreed(choir.freeSingers() & ~freeAhead);
                if (Pad.isPiece(pad.signAt(place))) {
                    piecesSung++;
                }
                acts++;
                place += Pad.lengthOf(pad.signAt(place), pad.signAt(place + 1));
            }
            return 0;
        }

        private void noteFreed(int newlyFree) {
            for (int singer = 0; singer < SINGERS && freeingAct == NONE; singer++) {
                if (bit(newlyFree, singer) == 1) {
                    freeingAct = acts;
                    firstFreed = singer;
                }
            }
        }

        private int act(int sign, int mark, int last) {
            if (sign == '.') {
                return choir.endEvening();
            }
            if (Pad.isPiece(sign)) {
                return choir.sing(sign - '0');
            }
            int singer = sign - 'A';
            switch (mark) {
                case '+':
                    return choir.borrow(singer, 10 * (last - '0'));
                case '*':
                    return choir.turnHoarse(singer);
                case '=':
                    return choir.takeOver(singer, last - 'A');
                default:
                    return choir.letGo(singer);
            }
        }

        /** One ACT of a YEAR, if it can be: an ACT that can not be changes nothing. */
        void draw(int x) {
            int eighth = x / 8;
            int later = x / 64;
            switch (x % 8) {
                case 0:
                case 1:
                case 2:
                    choir.sing(eighth % PIECES);
                    break;
                case 3:
                    choir.endEvening();
                    break;
                case 4:
                case 5:
                    choir.borrow(eighth % SINGERS, 10 * (1 + later % 9));
                    break;
                case 6:
                    choir.turnHoarse(eighth % SINGERS);
                    break;
                default:
                    choir.takeOver(eighth % SINGERS, later % SINGERS);
                    break;
            }
        }
    }

    /**
     * NIGHTS. Who owes less ahead of an evening owes no more behind it, so of
     * all rows of one set of PIECES the one that leaves least is enough.
     */
    private static final class Nights {
        private static final int NEVER = -1;
        int fewest;
        int firstPiece;
        private final int[] pays = new int[PIECES];
        /** By set of PIECES: what is left behind them, interest with it, or NEVER. */
        private final int[] left = new int[1 << PIECES];

        void find(Choir choir, int singer) {
            int debt = choir.debtOf(singer);
            fewest = debt == 0 ? 0 : NONE;
            firstPiece = NONE;
            if (debt == 0) {
                return;
            }
            takePays(choir, choir.voiceOf(singer));
            for (int first = 0; first < PIECES; first++) {
                int evenings = fewestFrom(first, debt);
                if (evenings != NONE && (fewest == NONE || evenings < fewest)) {
                    fewest = evenings;
                    firstPiece = first;
                }
            }
        }

        private void takePays(Choir choir, int voice) {
            for (int piece = 0; piece < PIECES; piece++) {
                pays[piece] = choir.needOf(piece, voice) > 0 ? choir.worthOf(piece) : NEVER;
            }
        }

        /** The fewest evenings of rows that begin with this PIECE; NONE. */
        private int fewestFrom(int first, int debt) {
            int fewestHere = NONE;
            for (int set = 0; set < left.length; set++) {
                left[set] = set == 1 << first ? afterPiece(debt, first) : leastLeft(set, first);
                int evenings = Integer.bitCount(set);
                if (left[set] == 0 && (fewestHere == NONE || evenings < fewestHere)) {
                    fewestHere = evenings;
                }
            }
            return fewestHere;
        }

        private int leastLeft(int set, int first) {
            int least = NEVER;
            for (int last = 0; last < PIECES; last++) {
                int others = set & ~(1 << last);
                if (last != first && bit(set, last) == 1 && within(others, 0, left.length - 1)) {
                    int rest = afterPiece(left[others], last);
                    if (rest != NEVER && (least == NEVER || rest < least)) {
                        least = rest;
                    }
                }
            }
            return least;
        }

        private int afterPiece(int debt, int piece) {
            if (debt == NEVER || !within(piece, 0, PIECES - 1) || pays[piece] == NEVER) {
                return NEVER;
            }
            int rest = Math.max(0, debt - pays[piece]);
            return rest + rest / 10;
        }
    }

    /** RINGS: four parts that go round. */
    private static final class Rings {
        private static final int FOUR = 4;
        private final int[] ranks = new int[FOUR];
        private final int[] parts = new int[FOUR];
        private final int[] points = new int[FOUR];
        private int left;

        void start(int a, int b, int c, int d) {
            ranks[0] = a;
            ranks[1] = b;
            ranks[2] = c;
            ranks[3] = d;
            left = 15;
        }

        /** In each round there is a ring at least, so that four rounds are enough. */
        void swap() {
            for (int round = 0; round < FOUR; round++) {
                for (int singer = 0; singer < FOUR; singer++) {
                    points[singer] = bestLeft(ranks[singer]);
                }
                int served = 0;
                for (int singer = 0; singer < FOUR; singer++) {
                    if (bit(left, singer) == 1 && isInRing(singer)) {
                        parts[singer] = points[singer];
                        served |= 1 << singer;
                    }
                }
                left &= ~served;
            }
        }

        private int bestLeft(int rank) {
            for (int place = FOUR - 1; place >= 0; place--) {
                int part = digitOf(rank, place);
                if (bit(left, part) == 1) {
                    return part;
                }
            }
            return NONE;
        }

        private boolean isInRing(int singer) {
            int at = singer;
            for (int step = 0; step < FOUR; step++) {
                at = within(at, 0, FOUR - 1) ? points[at] : NONE;
                if (at == singer) {
                    return true;
                }
            }
            return false;
        }

        int partsAsDigits() {
            int digits = 0;
            for (int singer = 0; singer < FOUR; singer++) {
                digits = 10 * digits + parts[singer];
            }
            return digits;
        }

        int countOwn() {
            int own = 0;
            for (int singer = 0; singer < FOUR; singer++) {
                if (parts[singer] == singer) {
                    own++;
                }
            }
            return own;
        }
    }

    /** SIGHTS, and the rows of what two owe that fit them all. */
    private static final class Sights {
        private static final int ROOM = 8, ROWS = 100, SUMS = 19;
        int count;
        int found;
        private final int[] pays = new int[ROOM];
        private final int[] sums = new int[ROOM];
        private final int[] rows = new int[ROWS];
        private final int[] tally = new int[SUMS];

        void copyFrom(Sights other) {
            count = other.count;
            System.arraycopy(other.pays, 0, pays, 0, ROOM);
            System.arraycopy(other.sums, 0, sums, 0, ROOM);
        }

        boolean add(int pay, int sum) {
            if (!within(count, 0, ROOM - 1)) {
                return false;
            }
            pays[count] = pay;
            sums[count] = sum;
            count++;
            return true;
        }

        private static int sumOf(int debts, int pay) {
            return Math.min(pay, debts / 10) + Math.min(pay, debts % 10);
        }

        private boolean fitsAll(int debts) {
            for (int i = 0; i < count && i < ROOM; i++) {
                if (sumOf(debts, pays[i]) != sums[i]) {
                    return false;
                }
            }
            return true;
        }

        void findRows() {
            found = 0;
            for (int debts = 0; debts < ROWS; debts++) {
                if (fitsAll(debts) && found < ROWS) {
                    rows[found] = debts;
                    found++;
                }
            }
        }

        int rowAt(int i) {
            return i >= 0 && i < found && i < ROWS ? rows[i] : NONE;
        }

        /** How many of the rows are left at the most, if this PAY is asked. */
        int mostLeft(int pay) {
            for (int sum = 0; sum < SUMS; sum++) {
                tally[sum] = 0;
            }
            int most = 0;
            for (int i = 0; i < found; i++) {
                int sum = sumOf(rowAt(i), pay);
                if (within(sum, 0, SUMS - 1)) {
                    tally[sum]++;
                    most = Math.max(most, tally[sum]);
                }
            }
            return most;
        }
    }

    /**
     * FUGUE, from the last evening to the first. The means are held as whole
     * numbers of 1 / unit, so that they stay exact.
     */
    private static final class Fugue {
        private static final int MOST = 9;
        long unit;
        /** By what is owed, as bits: whether to borrow on the evening that was reckoned last. */
        int borrowing;
        private final long[] best = new long[MOST + 1];
        private final long[] sung = new long[MOST + 1];

        void start(int cost) {
            unit = 1;
            borrowing = 0;
            for (int owes = 0; owes <= MOST; owes++) {
                best[owes] = -cost * owes;
            }
        }

        /** One evening ahead of those that were reckoned. */
        void evening(int tenths, int gain) {
            unit *= 10;
            borrowing = 0;
            for (int owes = 0; owes <= MOST; owes++) {
                sung[owes] = owes == 0 ? 10 * bestOf(0)
                        : tenths * bestOf(owes - 1) + (10 - tenths) * bestOf(Math.min(MOST, owes + 1));
            }
            for (int owes = 0; owes <= MOST; owes++) {
                best[owes] = sung[owes];
                if (owes < MOST && gain * unit + sung[owes + 1] > sung[owes]) {
                    best[owes] = gain * unit + sung[owes + 1];
                    borrowing |= 1 << owes;
                }
            }
        }

        long bestOf(int owes) {
            return within(owes, 0, MOST) ? best[owes] : 0;
        }
    }

    /** All but the PAD, as it was when it was kept. */
    private static final class Image {
        final Choir choir = new Choir();
        final Sights sights = new Sights();
        boolean kept;
    }
}
