/** Any arguments in any state: no call throws, and a refused one changes nothing. */
public final class WildTest {
    private static final int[] WILD = {Integer.MIN_VALUE, Integer.MIN_VALUE + 1, -1000000, -10000, -100, -7, -1,
        0, 1, 2, 3, 4, 5, 6, 7, 8, 9, 10, 11, 18, 19, 33, 46, 48, 60, 61, 65, 99, 100, 123, 126, 127, 128, 159, 160,
        999, 1000, 3210, 3333, 9999, 10000, 999999, 1000000, 1 << 30, Integer.MAX_VALUE - 1, Integer.MAX_VALUE};
    private static final Due DUE = new Due();

    private static int wild(int i) {
        return WILD[Math.floorMod(i, WILD.length)];
    }

    private static DebtChoir full() {
        DebtChoir x = new DebtChoir();
        for (int singer = 0; singer < 8; singer++) {
            x.singer(singer, singer % 4, 100 * singer);
        }
        for (int piece = 0; piece < 6; piece++) {
            x.piece(piece, 1111 * (piece % 3), 10 * piece, 9);
        }
        for (int sight = 0; sight < 8; sight++) {
            x.seen(9, 18);
        }
        x.image(0);
        Due.write(x, "1.A+1B*C=DEx0.1.A+1B*C=FEx0.1.A+1B*C=DEx0.1.A+1B*C=DEx0.1.ABC");
        return x;
    }

    private static long sum(DebtChoir x) {
        long all = 0;
        for (int what = 0; what < 160; what++) {
            all = 31 * all + x.told(what);
        }
        return 31 * all + x.fault();
    }

    private static void callAll(DebtChoir x, int i, int j) {
        int a = wild(i);
        int b = wild(j);
        int c = wild(i + j);
        int d = wild(i - j);
        x.judge(a);
        x.behind(a, b);
        x.owed(a);
        x.freed(a);
        x.may();
        x.nights(a, b);
        x.programme(a, b);
        x.ruin(a, b);
        x.seats(a, b, c & 1);
        x.rings(a, b, c, d, 0);
        x.rings(123, a, 123, 123, b);
        x.holds(a);
        x.ask(a);
        x.fugue(a, b, c, d, a, b & 1, c & 1);
        x.fugue(a & 7, b & 7, c & 7, d & 7, a & 7, c, d);
        x.year(a, b, c);
        x.told(a);
        x.fault();
    }

    private static void changeAll(DebtChoir x, int i, int j) {
        int a = wild(i);
        int b = wild(j);
        int c = wild(i + j);
        x.singer(a, b, c);
        x.piece(a, b, c, b);
        x.leave(a);
        x.say(a);
        x.say(b);
        x.done();
        x.seen(a, b);
        x.image(a);
        x.restore(b);
        if (i % 7 == 0) {
            x.wipe();
            x.forget();
        }
    }

    /** An object is used for 512 calls at most: so new ones are made ever again. */
    public static void main(String[] args) {
        long bareSum = sum(new DebtChoir());
        long fullSum = sum(full());
        for (int i = 0; i < WILD.length; i++) {
            for (int j = 0; j < WILD.length; j++) {
                DebtChoir bare = new DebtChoir();
                DebtChoir full = full();
                callAll(bare, i, j);
                callAll(full, i, j);
                DUE.is("a bare choir that was only asked", sum(bare), bareSum);
                DUE.is("a full choir that was only asked", sum(full), fullSum);
            }
        }
        for (int i = 0; i < WILD.length; i++) {
            DebtChoir bare = new DebtChoir();
            DebtChoir full = full();
            for (int j = 0; j < WILD.length; j++) {
                if (j % 8 == 0) {
                    bare = new DebtChoir();
                    full = full();
                }
                changeAll(bare, i, j);
                callAll(bare, j, i);
                changeAll(full, j, i);
                callAll(full, i, j);
            }
        }
        DUE.end();
    }
}
