import java.math.BigInteger;
import java.util.ArrayList;
import java.util.Collections;
import java.util.List;
import java.util.TreeMap;

/**
 * Long runs of drawn calls, each answer against a second program that was
 * written from the document in another way (plain search, texts, lists).
 */
public final class ModelTest {
    private static final int UNKNOWN = -1, OUTSIDE = -2, STATE = -3, FULL = -4, NO = -5, NONE = -6;

    private static final class Person {
        int voice;
        int debt;
        boolean hoarse;
        boolean sang;

        Person copy() {
            Person p = new Person();
            p.voice = voice;
            p.debt = debt;
            p.hoarse = hoarse;
            p.sang = sang;
            return p;
        }
    }

    private static final class World {
        final TreeMap<Integer, Person> people = new TreeMap<>();
        int[][] pieces = new int[6][6];
        int evenings = 0;
        List<int[]> sights = new ArrayList<>();

        World copy() {
            World w = new World();
            people.forEach((k, p) -> w.people.put(k, p.copy()));
            for (int i = 0; i < 6; i++) {
                w.pieces[i] = pieces[i].clone();
            }
            w.evenings = evenings;
            w.sights = new ArrayList<>(sights);
            return w;
        }
    }

    private static final class Model {
        World now = new World();
        final World[] images = new World[2];
        String pad = "";

        // what the last trial told
        World later;
        List<String> acts;
        int bad;
        int why;
        int sung;
        int off;
        int freeAct;
        int freeWho;

        int singer(int s, int v, int d) {
            if (s < 0 || s > 7) {
                return UNKNOWN;
            }
            if (v < 0 || v > 3 || d < 0 || d > 999) {
                return OUTSIDE;
            }
            Person p = new Person();
            p.voice = v;
            p.debt = d;
            now.people.put(s, p);
            return now.people.size();
        }

        int leave(int s) {
            return now.people.remove(s) == null ? UNKNOWN : now.people.size();
        }

        int piece(int p, int needs, int bars, int pay) {
            if (p < 0 || p > 5) {
                return UNKNOWN;
            }
            if (needs < 0 || needs > 3333 || !String.valueOf(needs).matches("[0-3]+")
                    || bars < 0 || bars > 60 || pay < 0 || pay > 9) {
                return OUTSIDE;
            }
            int had = now.pieces[p][4];
            String four = String.format("%04d", needs);
            for (int v = 0; v < 4; v++) {
                now.pieces[p][v] = four.charAt(v) - '0';
            }
            now.pieces[p][4] = bars;
            now.pieces[p][5] = pay;
            return had;
        }

        int say(int sign) {
            if (sign < 33 || sign > 126) {
                return OUTSIDE;
            }
            if (pad.length() == 60) {
                return FULL;
            }
            pad += (char) sign;
            return pad.length();
        }

        int wipe() {
            int n = pad.length();
            pad = "";
            return n;
        }

        static boolean begins(String text) {
            return text.matches("([0-5.]|[A-H](\\+[1-9]|\\*|=[A-H]|x))*([A-H][+=]?)?");
        }

        int fault() {
            for (int n = 1; n <= pad.length(); n++) {
                if (!begins(pad.substring(0, n))) {
                    return n - 1;
                }
            }
            return pad.matches("([0-5.]|[A-H](\\+[1-9]|\\*|=[A-H]|x))*") ? NONE : pad.length();
        }

        static int act(World w, String act, int[] off) {
            char c = act.charAt(0);
            if (c == '.') {
                if (w.evenings == 99) {
                    return 5;
                }
                w.evenings++;
                for (Person p : w.people.values()) {
                    if (p.hoarse || !p.sang) {
                        p.debt = Math.min(999, p.debt + p.debt / 10);
                    }
                    p.sang = false;
                }
                return 0;
            }
            if (Character.isDigit(c)) {
                int[] piece = w.pieces[c - '0'];
                List<Person> all = new ArrayList<>();
                for (int v = 0; v < 4; v++) {
                    List<Person> can = new ArrayList<>();
                    for (Person p : w.people.values()) {
                        if (p.voice == v && p.debt > 0 && !p.hoarse && !p.sang) {
                            can.add(p);
                        }
                    }
                    Collections.sort(can, (a, b) -> b.debt - a.debt);
                    if (can.size() < piece[v]) {
                        return 4;
                    }
                    all.addAll(can.subList(0, piece[v]));
                }
                for (Person p : all) {
                    int rest = Math.max(0, p.debt - piece[4] * piece[5]);
                    off[0] += p.debt - rest;
                    p.debt = rest;
                    p.sang = true;
                }
                return 0;
            }
            Person he = w.people.get(c - 'A');
            char mark = act.charAt(1);
            Person other = mark == '=' ? w.people.get(act.charAt(2) - 'A') : he;
            if (he == null || other == null) {
                return 1;
            }
            if ((mark == '=' && he == other) || ((mark == '=' || mark == 'x') && he.debt == 0)) {
                return 2;
            }
            int more = mark == '+' ? 10 * (act.charAt(2) - '0') : mark == '=' ? he.debt : 0;
            if (other.debt + more > 999) {
                return 3;
            }
            other.debt += more;
            if (mark == '=' || mark == 'x') {
                he.debt = 0;
            }
            if (mark == '*') {
                he.hoarse = !he.hoarse;
            }
            return 0;
        }

        int attempt() {
            if (fault() != NONE) {
                return NO;
            }
            later = now.copy();
            acts = new ArrayList<>();
            for (String rest = pad; !rest.isEmpty();) {
                int n = Character.isLetter(rest.charAt(0)) ? "+=".indexOf(rest.charAt(1)) >= 0 ? 3 : 2 : 1;
                acts.add(rest.substring(0, n));
                rest = rest.substring(n);
            }
            bad = why = freeAct = freeWho = NONE;
            sung = 0;
            int[] sum = new int[1];
            for (int i = 0; i < acts.size(); i++) {
                World ahead = later.copy();
                int reason = act(later, acts.get(i), sum);
                if (reason != 0) {
                    bad = i;
                    why = reason;
                    return STATE;
                }
                sung += Character.isDigit(acts.get(i).charAt(0)) ? 1 : 0;
                for (int s : later.people.keySet()) {
                    if (later.people.get(s).debt == 0 && ahead.people.get(s).debt > 0 && freeAct == NONE) {
                        freeAct = i;
                        freeWho = s;
                    }
                }
            }
            off = sum[0];
            return 0;
        }

        int judge(int what) {
            if (what < 0 || what > 2) {
                return OUTSIDE;
            }
            int r = attempt();
            if (r == NO || (r == STATE && what == 2)) {
                return r;
            }
            return what == 0 ? bad : what == 1 ? why : sung;
        }

        int behind(int s, int what) {
            if (!now.people.containsKey(s)) {
                return UNKNOWN;
            }
            if (what < 0 || what > 2) {
                return OUTSIDE;
            }
            int r = attempt();
            if (r != 0) {
                return r;
            }
            Person p = later.people.get(s);
            return what == 0 ? p.debt : (what == 1 ? p.hoarse : p.sang) ? 1 : 0;
        }

        static int debts(World w) {
            return w.people.values().stream().mapToInt(p -> p.debt).sum();
        }

        int owed(int what) {
            if (what < 0 || what > 1) {
                return OUTSIDE;
            }
            int r = attempt();
            return r != 0 ? r : what == 0 ? debts(later) : off;
        }

        int freed(int what) {
            if (what < 0 || what > 1) {
                return OUTSIDE;
            }
            int r = attempt();
            return r != 0 ? r : what == 0 ? freeAct : freeWho;
        }

        int done() {
            int r = attempt();
            if (r != 0) {
                return r;
            }
            now = later;
            pad = "";
            return acts.size();
        }

        int may() {
            int bits = 0;
            for (int p = 0; p < 6; p++) {
                if (act(now.copy(), String.valueOf(p), new int[1]) == 0) {
                    bits |= 1 << p;
                }
            }
            return bits;
        }

        /** {evenings, first} of the first of the fewest, by trying every row. */
        static int[] rows(World w, int voice, int debt, int used) {
            int[] best = {NONE, NONE};
            for (int p = 0; p < 6; p++) {
                if ((used >> p & 1) == 1 || w.pieces[p][voice] == 0) {
                    continue;
                }
                int left = Math.max(0, debt - w.pieces[p][4] * w.pieces[p][5]);
                int n = left == 0 ? 1 : rows(w, voice, left + left / 10, used | 1 << p)[0];
                n = left == 0 ? 1 : n == NONE ? NONE : n + 1;
                if (n != NONE && (best[0] == NONE || n < best[0])) {
                    best = new int[] {n, p};
                }
            }
            return best;
        }

        int nights(int s, int what) {
            if (!now.people.containsKey(s)) {
                return UNKNOWN;
            }
            if (what < 0 || what > 1) {
                return OUTSIDE;
            }
            Person p = now.people.get(s);
            if (p.debt == 0) {
                return what == 0 ? 0 : NONE;
            }
            return rows(now, p.voice, p.debt, 0)[what];
        }

        int programme(int v, int what) {
            if (v < 0 || v > 99 || what < 0 || what > 1) {
                return OUTSIDE;
            }
            int best = -1;
            int which = 0;
            for (int set = 63; set >= 0; set--) {
                int bars = 0;
                int pays = 0;
                for (int p = 0; p < 6; p++) {
                    if ((set & 1 << p) != 0) {
                        int[] q = now.pieces[p];
                        bars += q[4];
                        pays += q[4] * q[5] * (q[0] + q[1] + q[2] + q[3]);
                    }
                }
                if (bars <= v && pays >= best) {
                    best = pays;
                    which = set;
                }
            }
            return what == 0 ? best : which;
        }

        int ruin(int piece, int what) {
            if (piece < 0 || piece > 5) {
                return UNKNOWN;
            }
            if (what < 0 || what > 1) {
                return OUTSIDE;
            }
            int best = NONE;
            for (int set = 0; set < 256; set++) {
                World w = now.copy();
                boolean fits = true;
                for (int s = 0; s < 8; s++) {
                    if ((set >> s & 1) == 1) {
                        Person p = w.people.get(s);
                        fits = fits && p != null && p.debt == 0 && !p.hoarse && !p.sang;
                        if (p != null) {
                            p.debt = 1;
                        }
                    }
                }
                if (fits && act(w, String.valueOf(piece), new int[1]) == 0
                        && (best == NONE || Integer.bitCount(set) < Integer.bitCount(best))) {
                    best = set;
                }
            }
            return best == NONE ? NONE : what == 0 ? Integer.bitCount(best) : best;
        }

        static int seats(int k, int bids, int what) {
            if (k < 0 || k > 6 || bids < 0 || bids > 999999 || what < 0 || what > 1) {
                return OUTSIDE;
            }
            String six = String.format("%06d", bids);
            List<Integer> order = new ArrayList<>(List.of(0, 1, 2, 3, 4, 5));
            Collections.sort(order, (a, b) -> six.charAt(b) - six.charAt(a));
            int who = 0;
            for (int c : order.subList(0, k)) {
                who |= 1 << c;
            }
            return what == 0 ? who : k == 6 ? 0 : six.charAt(order.get(k)) - '0';
        }

        static int rings(int[] ranks, int what) {
            String[] wish = new String[4];
            for (int s = 0; s < 4; s++) {
                wish[s] = ranks[s] < 0 ? "-" : String.format("%04d", ranks[s]);
                char[] signs = wish[s].toCharArray();
                java.util.Arrays.sort(signs);
                if (!new String(signs).equals("0123")) {
                    return OUTSIDE;
                }
            }
            if (what < 0 || what > 1) {
                return OUTSIDE;
            }
            // one ring after the other: it does not matter which is first
            int[] got = {-1, -1, -1, -1};
            List<Integer> left = new ArrayList<>(List.of(0, 1, 2, 3));
            while (!left.isEmpty()) {
                List<Integer> path = new ArrayList<>();
                int at = left.get(left.size() - 1);
                while (!path.contains(at)) {
                    path.add(at);
                    String w = wish[at];
                    int best = 0;
                    while (!left.contains(w.charAt(best) - '0')) {
                        best++;
                    }
                    at = w.charAt(best) - '0';
                    got[path.get(path.size() - 1)] = at;
                }
                left.removeAll(path.subList(path.indexOf(at), path.size()));
            }
            int own = 0;
            for (int s = 0; s < 4; s++) {
                own += got[s] == s ? 1 : 0;
            }
            return what == 0 ? 1000 * got[0] + 100 * got[1] + 10 * got[2] + got[3] : own;
        }

        int seen(int p, int s) {
            if (p < 1 || p > 9 || s < 0 || s > 18) {
                return OUTSIDE;
            }
            if (now.sights.size() == 8) {
                return FULL;
            }
            now.sights.add(new int[] {p, s});
            return now.sights.size();
        }

        int forget() {
            int n = now.sights.size();
            now.sights.clear();
            return n;
        }

        static int off(int a, int b, int p) {
            return (a < p ? a : p) + (b < p ? b : p);
        }

        List<Integer> fits() {
            List<Integer> rows = new ArrayList<>();
            for (int a = 0; a <= 9; a++) {
                for (int b = 0; b <= 9; b++) {
                    boolean all = true;
                    for (int[] sight : now.sights) {
                        all &= off(a, b, sight[0]) == sight[1];
                    }
                    if (all) {
                        rows.add(10 * a + b);
                    }
                }
            }
            return rows;
        }

        int holds(int i) {
            List<Integer> rows = fits();
            return i == -1 ? rows.size() : i < 0 || i >= rows.size() ? NONE : rows.get(i);
        }

        int ask(int what) {
            if (what < 0 || what > 1) {
                return OUTSIDE;
            }
            List<Integer> rows = fits();
            if (rows.isEmpty()) {
                return NONE;
            }
            int[] best = {0, 1000};
            for (int p = 1; p <= 9; p++) {
                TreeMap<Integer, Integer> by = new TreeMap<>();
                for (int row : rows) {
                    by.merge(off(row / 10, row % 10, p), 1, Integer::sum);
                }
                int most = Collections.max(by.values());
                if (most < best[1]) {
                    best = new int[] {p, most};
                }
            }
            return best[what];
        }

        /** The mean as a whole number of 1 by 10 to the m. */
        static BigInteger mean(int d, int m, int t, int g, int c) {
            if (m == 0) {
                return BigInteger.valueOf(-(long) d * c);
            }
            BigInteger not = sing(d, m, t, g, c);
            return d < 9 ? not.max(loan(d, m, t, g, c)) : not;
        }

        static BigInteger loan(int d, int m, int t, int g, int c) {
            return BigInteger.TEN.pow(m).multiply(BigInteger.valueOf(g)).add(sing(d + 1, m, t, g, c));
        }

        static BigInteger sing(int d, int m, int t, int g, int c) {
            if (d == 0) {
                return mean(0, m - 1, t, g, c).multiply(BigInteger.TEN);
            }
            BigInteger well = mean(d - 1, m - 1, t, g, c).multiply(BigInteger.valueOf(t));
            BigInteger ill = mean(Math.min(9, d + 1), m - 1, t, g, c).multiply(BigInteger.valueOf(10 - t));
            return well.add(ill);
        }

        static long fugue(int[] v) {
            int[] most = {9, 8, 10, 9, 9, 1, 1};
            for (int i = 0; i < 7; i++) {
                if (v[i] < 0 || v[i] > most[i]) {
                    return -1000000000000000002L;
                }
            }
            int d = v[0];
            int m = v[1];
            if (v[5] == 1) {
                boolean borrows = m > 0 && d < 9
                        && loan(d, m, v[2], v[3], v[4]).compareTo(sing(d, m, v[2], v[3], v[4])) > 0;
                return borrows ? 1 : 0;
            }
            BigInteger upper = mean(d, m, v[2], v[3], v[4]);
            BigInteger lower = BigInteger.TEN.pow(m);
            BigInteger by = upper.gcd(lower);
            return (v[6] == 0 ? upper : lower).divide(by).longValue();
        }

        int year(int seed, int m, int what) {
            if (seed < 0 || seed > 9999 || m < 1 || m > 99 || what < 0 || what > 2) {
                return OUTSIDE;
            }
            World w = now.copy();
            int[] sum = new int[1];
            int x = seed;
            for (int i = 0; i < m; i++) {
                x = (75 * x + 74) % 65537;
                char he = (char) ('A' + x / 8 % 8);
                char other = (char) ('A' + x / 64 % 8);
                String[] all = {"" + x / 8 % 6, "" + x / 8 % 6, "" + x / 8 % 6, ".",
                    he + "+" + (1 + x / 64 % 9), he + "+" + (1 + x / 64 % 9), he + "*", he + "=" + other};
                act(w, all[x % 8], sum);
            }
            int free = (int) w.people.values().stream().filter(p -> p.debt == 0).count();
            return what == 0 ? debts(w) : what == 1 ? free : sum[0];
        }

        int image(int k) {
            if (k < 0 || k > 1) {
                return OUTSIDE;
            }
            images[k] = now.copy();
            return 1;
        }

        int restore(int k) {
            if (k < 0 || k > 1) {
                return OUTSIDE;
            }
            if (images[k] == null) {
                return STATE;
            }
            now = images[k].copy();
            return 1;
        }

        int told(int what) {
            if (what == 0) {
                return pad.length();
            }
            if (what == 1) {
                return now.people.keySet().stream().mapToInt(s -> 1 << s).sum();
            }
            if (what == 2 || what == 3) {
                return what == 2 ? now.evenings : now.sights.size();
            }
            for (int s : now.people.keySet()) {
                Person p = now.people.get(s);
                int[] row = {p.voice, p.debt, p.hoarse ? 1 : 0, p.sang ? 1 : 0};
                for (int i = 0; i < 4; i++) {
                    if (what == 10 * (s + 1) + i) {
                        return row[i];
                    }
                }
            }
            for (int p = 0; p < 6; p++) {
                for (int i = 0; i < 6; i++) {
                    if (what == 100 + 10 * p + i) {
                        return now.pieces[p][i];
                    }
                }
            }
            return OUTSIDE;
        }
    }

    private static long seed = 20261118;

    /** From 0 to bound - 1. */
    private static int draw(int bound) {
        seed = seed * 6364136223846793005L + 1442695040888963407L;
        return (int) ((seed >>> 33) % bound);
    }

    /** Mostly as told, at times just outside. */
    private static int near(int least, int most) {
        return draw(40) == 0 ? (draw(2) == 0 ? least - 1 : most + 1) : least + draw(most - least + 1);
    }

    private static int digits(int count, int base) {
        int n = 0;
        for (int i = 0; i < count; i++) {
            n = 10 * n + draw(base);
        }
        return n;
    }

    private static int ranks() {
        List<Integer> order = new ArrayList<>(List.of(0, 1, 2, 3));
        int n = 0;
        while (!order.isEmpty()) {
            n = 10 * n + order.remove(draw(order.size()));
        }
        return draw(200) == 0 ? n + 1 : n;
    }

    private static String drawnAct() {
        char he = (char) ('A' + draw(8));
        switch (draw(12)) {
            case 0:
                return he + "+" + (1 + draw(9));
            case 1:
                return he + "*";
            case 2:
                return he + "=" + (char) ('A' + draw(8));
            case 3:
                return he + "x";
            case 4:
            case 5:
            case 6:
                return ".";
            case 7:
                return draw(8) > 0 ? "0" : "" + (char) (33 + draw(94));
            default:
                return "" + draw(6);
        }
    }

    private static final Due DUE = new Due();

    private static void change(DebtChoir x, Model y) {
        int a = near(0, 7);
        int p = near(0, 5);
        int needs = draw(30) == 0 ? draw(12000) - 1000 : digits(4, 2 + draw(3)) & (draw(2) == 0 ? -1 : 1023);
        int bars = near(0, draw(3) == 0 ? 60 : 20);
        int pay = near(0, 9);
        int voice = draw(30) == 0 ? near(0, 3) : draw(4);
        int debt = draw(5) == 0 ? 0 : near(0, draw(3) == 0 ? 999 : 120);
        int k = near(0, 1);
        switch (draw(12)) {
            case 0:
            case 1:
            case 2:
                DUE.is("singer", x.singer(a, voice, debt), y.singer(a, voice, debt));
                break;
            case 3:
                DUE.is("leave", x.leave(a), y.leave(a));
                break;
            case 4:
            case 5:
            case 6:
                DUE.is("piece", x.piece(p, needs, bars, pay), y.piece(p, needs, bars, pay));
                break;
            case 7:
                DUE.is("image", x.image(k), y.image(k));
                break;
            case 8:
                DUE.is("restore", x.restore(k), y.restore(k));
                break;
            case 9:
                DUE.is("forget", x.forget(), y.forget());
                break;
            default:
                int pays = near(1, 9);
                int one = draw(10);
                int two = draw(10);
                int sum = draw(3) == 0 ? near(0, 18) : Model.off(one, two, Math.max(0, pays));
                DUE.is("seen", x.seen(pays, sum), y.seen(pays, sum));
                break;
        }
    }

    private static void write(DebtChoir x, Model y) {
        if (draw(4) == 0) {
            DUE.is("wipe", x.wipe(), y.wipe());
        }
        String text = draw(50) == 0 ? "" + (char) (31 + draw(98)) : "";
        for (int n = draw(6); n > 0; n--) {
            text += drawnAct();
        }
        for (char sign : text.toCharArray()) {
            DUE.is("say", x.say(sign), y.say(sign));
        }
    }

    private static void evenings(DebtChoir x, Model y) {
        int what = near(0, 2);
        int s = near(0, 7);
        DUE.is("fault", x.fault(), y.fault());
        DUE.is("judge 0", x.judge(0), y.judge(0));
        DUE.is("judge 1", x.judge(1), y.judge(1));
        DUE.is("judge", x.judge(what), y.judge(what));
        DUE.is("behind", x.behind(s, what), y.behind(s, what));
        DUE.is("owed", x.owed(what), y.owed(what));
        DUE.is("freed", x.freed(what), y.freed(what));
        if (draw(2) == 0) {
            DUE.is("done", x.done(), y.done());
        }
        DUE.is("may", x.may(), y.may());
    }

    private static void other(DebtChoir x, Model y) {
        int what = near(0, 1);
        int s = near(0, 7);
        int p = near(0, 5);
        int v = near(0, 99);
        int k = near(0, 6);
        int bids = draw(40) == 0 ? 1000000 : digits(6, 2 + draw(9));
        int[] r = {ranks(), ranks(), ranks(), ranks()};
        int i = draw(3) == 0 ? draw(110) - 5 : draw(6) - 1;
        int[] f = {near(0, 9), near(0, 4), near(0, 10), near(0, 9), near(0, 9), draw(2), draw(2)};
        int x0 = near(0, 9999);
        int m = near(1, 99);
        int third = near(0, 2);
        DUE.is("nights", x.nights(s, what), y.nights(s, what));
        DUE.is("programme", x.programme(v, what), y.programme(v, what));
        DUE.is("ruin", x.ruin(p, what), y.ruin(p, what));
        DUE.is("seats", x.seats(k, bids, what), Model.seats(k, bids, what));
        DUE.is("rings", x.rings(r[0], r[1], r[2], r[3], what), Model.rings(r, what));
        DUE.is("holds", x.holds(i), y.holds(i));
        DUE.is("ask", x.ask(what), y.ask(what));
        DUE.is("fugue", x.fugue(f[0], f[1], f[2], f[3], f[4], f[5], f[6]), Model.fugue(f));
        DUE.is("year", x.year(x0, m, third), y.year(x0, m, third));
        int t = draw(170) - 3;
        DUE.is("told", x.told(t), y.told(t));
    }

    /** Everything that can be told, at the end of a run. */
    private static void all(DebtChoir x, Model y) {
        for (int what = -1; what <= 161; what++) {
            DUE.is("told(" + what + ")", x.told(what), y.told(what));
        }
    }

    /** Of 512 calls a run uses some 460 at most: 17, 7 times 38, and 163. */
    public static void main(String[] args) {
        for (int run = 0; run < 900; run++) {
            DebtChoir x = new DebtChoir();
            Model y = new Model();
            for (int n = 3 + draw(14); n > 0; n--) {
                change(x, y);
            }
            for (int round = 0; round < 7; round++) {
                change(x, y);
                change(x, y);
                write(x, y);
                evenings(x, y);
                other(x, y);
            }
            all(x, y);
        }
        longFugues();
        DUE.end();
    }

    /** Eight evenings, where the numbers are greatest. */
    private static void longFugues() {
        DebtChoir x = new DebtChoir();
        for (int n = 0; n < 12; n++) {
            int[] f = {draw(10), 7, draw(11), draw(10), draw(10), draw(2), 0};
            DUE.is("long fugue", x.fugue(f[0], f[1], f[2], f[3], f[4], f[5], 0), Model.fugue(f));
        }
        for (int g = 0; g <= 9; g += 3) {
            for (int c = 0; c <= 9; c += 3) {
                int[] f = {0, 8, 5, g, c, 0, g % 2};
                DUE.is("longest fugue", x.fugue(0, 8, 5, g, c, 0, g % 2), Model.fugue(f));
            }
        }
    }
}
