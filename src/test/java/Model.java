import java.math.BigInteger;
import java.util.ArrayList;
import java.util.List;

/** The document once more, hour by hour and way by way, with no regard to speed: for comparing. */
final class Model {
    private static final int NONE = -6, UNKNOWN = -1, OUTSIDE = -2, STATE = -3, FULL = -4, NO = -5;
    private static final long LOST = -1000000000000000000L;

    /** All but the pad. */
    private static final class State {
        int[][] piece = new int[6][]; // null, or creaks, nerves, damp, room, sat in
        int[][] room = new int[4][3];
        int[][] bad = new int[6][6];
        int[] likes = new int[6];
        int hour;
        List<int[]> sights = new ArrayList<>();

        State copy() {
            State c = new State();
            for (int p = 0; p < 6; p++) {
                c.piece[p] = piece[p] == null ? null : piece[p].clone();
                c.bad[p] = bad[p].clone();
            }
            for (int r = 0; r < 4; r++) {
                c.room[r] = room[r].clone();
            }
            c.likes = likes.clone();
            c.hour = hour;
            c.sights = new ArrayList<>(sights);
            return c;
        }

        void pass() {
            int[][] next = new int[6][];
            for (int p = 0; p < 6; p++) {
                if (piece[p] == null) {
                    continue;
                }
                next[p] = piece[p].clone();
                int[] more = room[piece[p][3]].clone();
                for (int q = 0; q < 6; q++) {
                    if (q != p && piece[q] != null && piece[q][3] == piece[p][3]) {
                        more[1] += bad[q][p];
                    }
                }
                for (int i = 0; i < 3; i++) {
                    next[p][i] = Math.min(20, Math.max(0, piece[p][i] + more[i]));
                }
                if (piece[p][4] == 1) {
                    next[p][0] = Math.max(0, next[p][0] - 2);
                }
                next[p][4] = 0;
            }
            piece = next;
            hour++;
        }

        int ills(int p) {
            return piece[p][0] + piece[p][1] + piece[p][2];
        }

        boolean allWell() {
            for (int p = 0; p < 6; p++) {
                if (piece[p] != null && ills(p) != 0) {
                    return false;
                }
            }
            return true;
        }

        int there() {
            int set = 0;
            for (int p = 0; p < 6; p++) {
                set += piece[p] == null ? 0 : 1 << p;
            }
            return set;
        }

        void nobodySits() {
            for (int[] p : piece) {
                if (p != null) {
                    p[4] = 0;
                }
            }
        }

        /** 0 and it is done, or why not. */
        int act(String act) {
            if (act.equals(".")) {
                if (hour == 99) {
                    return 4;
                }
                pass();
                return 0;
            }
            int[] p = piece[act.charAt(0) - 'A'];
            if (p == null) {
                return 1;
            }
            if (act.charAt(1) == '!') {
                if (p[4] == 1) {
                    return 3;
                }
                p[4] = 1;
                return 0;
            }
            int to = act.charAt(1) - 'a';
            if (p[3] == to) {
                return 2;
            }
            if (p[4] == 1) {
                return 3;
            }
            p[3] = to;
            return 0;
        }
    }

    private State s = new State();
    private final State[] images = new State[2];
    private String pad = "";

    private static boolean in(int v, int least, int most) {
        return least <= v && v <= most;
    }

    private int countThere() {
        return Integer.bitCount(s.there());
    }

    private boolean isThere(int p) {
        return in(p, 0, 5) && s.piece[p] != null;
    }

    int piece(int p, int c, int n, int d) {
        if (!in(p, 0, 5)) {
            return UNKNOWN;
        }
        if (!in(c, 0, 20) || !in(n, 0, 20) || !in(d, 0, 20)) {
            return OUTSIDE;
        }
        s.piece[p] = new int[] {c, n, d, 0, 0};
        return countThere();
    }

    int leave(int p) {
        if (!isThere(p)) {
            return UNKNOWN;
        }
        s.piece[p] = null;
        return countThere();
    }

    int room(int r, int i, int v) {
        if (!in(r, 0, 3)) {
            return UNKNOWN;
        }
        if (!in(i, 0, 2) || !in(v, -5, 5)) {
            return OUTSIDE;
        }
        int was = s.room[r][i];
        s.room[r][i] = v;
        return was + 10;
    }

    int bad(int p, int q, int v) {
        if (!in(p, 0, 5) || !in(q, 0, 5) || p == q) {
            return UNKNOWN;
        }
        if (!in(v, -3, 3)) {
            return OUTSIDE;
        }
        int was = s.bad[p][q];
        s.bad[p][q] = v;
        return was + 10;
    }

    int guest(int g, int set) {
        if (!in(g, 0, 5)) {
            return UNKNOWN;
        }
        if (!in(set, 0, 63)) {
            return OUTSIDE;
        }
        int was = s.likes[g];
        s.likes[g] = set;
        return was;
    }

    int say(int sign) {
        if (!in(sign, 33, 126)) {
            return OUTSIDE;
        }
        if (pad.length() == 60) {
            return FULL;
        }
        pad += (char) sign;
        return pad.length();
    }

    int wipe() {
        int was = pad.length();
        pad = "";
        return was;
    }

    int fault() {
        if (pad.matches("([A-F][a-d!]|[.])*")) {
            return NONE;
        }
        for (int n = 0; n < pad.length(); n++) {
            if (!pad.substring(0, n + 1).matches("([A-F][a-d!]|[.])*[A-F]?")) {
                return n;
            }
        }
        return pad.length();
    }

    private List<String> acts() {
        List<String> acts = new ArrayList<>();
        for (int i = 0; i < pad.length(); i++) {
            acts.add(pad.charAt(i) == '.' ? "." : pad.substring(i, i + 2));
            i += pad.charAt(i) == '.' ? 0 : 1;
        }
        return acts;
    }

    int judge(int what) {
        if (!in(what, 0, 1)) {
            return OUTSIDE;
        }
        if (fault() != NONE) {
            return NO;
        }
        State t = s.copy();
        List<String> acts = acts();
        for (int i = 0; i < acts.size(); i++) {
            int why = t.act(acts.get(i));
            if (why != 0) {
                return what == 0 ? i : why;
            }
        }
        return NONE;
    }

    private State afterCures() {
        if (fault() != NONE || judge(0) != NONE) {
            return null;
        }
        State t = s.copy();
        for (String act : acts()) {
            t.act(act);
        }
        return t;
    }

    int done() {
        State t = afterCures();
        if (t == null) {
            return NO;
        }
        int count = acts().size();
        s = t;
        pad = "";
        return count;
    }

    int behind(int p, int what) {
        if (!isThere(p)) {
            return UNKNOWN;
        }
        if (!in(what, 0, 3)) {
            return OUTSIDE;
        }
        State t = afterCures();
        return t == null ? NO : t.piece[p][what];
    }

    int worse(int what) {
        if (!in(what, 0, 1)) {
            return OUTSIDE;
        }
        if (afterCures() == null) {
            return NO;
        }
        State t = s.copy();
        int hour = 0;
        for (String act : acts()) {
            State ahead = t.copy();
            t.act(act);
            if (act.equals(".")) {
                for (int p = 0; p < 6; p++) {
                    if (t.piece[p] != null && t.ills(p) > ahead.ills(p)) {
                        return what == 0 ? hour : p;
                    }
                }
                hour++;
            }
        }
        return NONE;
    }

    int well() {
        int set = 0;
        for (int p = 0; p < 6; p++) {
            set += s.piece[p] != null && s.ills(p) == 0 ? 1 << p : 0;
        }
        return set;
    }

    private static int hoursUntilWell(State t, int p) {
        for (int h = 0; h <= 60; h++) {
            if (t.ills(p) == 0) {
                return h;
            }
            t.pass();
        }
        return NONE;
    }

    int stays(int p) {
        if (!isThere(p)) {
            return UNKNOWN;
        }
        State t = s.copy();
        t.nobodySits();
        return hoursUntilWell(t, p);
    }

    int alone(int p, int what) {
        if (!isThere(p)) {
            return UNKNOWN;
        }
        if (!in(what, 0, 1)) {
            return OUTSIDE;
        }
        int best = NONE;
        int room = NONE;
        for (int r = 0; r < 4; r++) {
            State t = s.copy();
            t.piece = new int[6][];
            t.piece[p] = s.piece[p].clone();
            t.nobodySits();
            t.piece[p][3] = r;
            int h = hoursUntilWell(t, p);
            if (h != NONE && (best == NONE || h < best)) {
                best = h;
                room = r;
            }
        }
        return what == 0 ? room : best;
    }

    int all(int what) {
        if (!in(what, 0, 1)) {
            return OUTSIDE;
        }
        int best = 21;
        int rooms = NONE;
        for (int way = 4095; way >= 0; way--) {
            State t = s.copy();
            t.nobodySits();
            int number = 0;
            boolean least = true;
            for (int p = 0; p < 6; p++) {
                int r = way >> 2 * p & 3;
                least &= t.piece[p] != null || r == 0;
                number = number * 10 + (t.piece[p] == null ? 4 : r);
                if (t.piece[p] != null) {
                    t.piece[p][3] = r;
                }
            }
            for (int h = 0; least && h <= best && h <= 20; h++) {
                if (t.allWell()) {
                    if (h < best || number < rooms) {
                        rooms = number;
                    }
                    best = h;
                    break;
                }
                t.pass();
            }
        }
        return what == 1 ? rooms : best == 21 ? NONE : best;
    }

    int ways(int apart, int together, int n) {
        if (!in(apart, 0, 32767) || !in(together, 0, 32767) || !in(n, 1, 4)) {
            return OUTSIDE;
        }
        int count = 0;
        for (int way = 0; way < 4096; way++) {
            boolean so = true;
            int pair = 0;
            for (int p = 0; p < 6; p++) {
                int r = way >> 2 * p & 3;
                so &= s.piece[p] == null ? r == 0 : r < n;
                for (int q = p + 1; q < 6; q++, pair++) {
                    if (s.piece[p] != null && s.piece[q] != null) {
                        boolean one = r == (way >> 2 * q & 3);
                        so &= !(one && (apart >> pair & 1) == 1) && !(!one && (together >> pair & 1) == 1);
                    }
                }
            }
            count += so ? 1 : 0;
        }
        return count;
    }

    int rooms(int apart, int together) {
        for (int n = 1; n <= 4; n++) {
            int ways = ways(apart, together, n);
            if (ways != 0) {
                return ways < 0 ? ways : n;
            }
        }
        return NONE;
    }

    private int[] bestSeats;
    private int mostSeated;

    private void seat(int g, int taken, int[] seats, int seated) {
        if (g == 6) {
            if (seated > mostSeated) {
                mostSeated = seated;
                bestSeats = seats.clone();
            }
            return;
        }
        for (int p = 0; p < 6; p++) {
            if ((s.likes[g] & s.there() & ~taken & 1 << p) != 0) {
                seats[g] = p;
                seat(g + 1, taken | 1 << p, seats, seated + 1);
            }
        }
        seats[g] = NONE;
        seat(g + 1, taken, seats, seated);
    }

    int seats(int g) {
        if (!in(g, -1, 5)) {
            return UNKNOWN;
        }
        mostSeated = -1;
        seat(0, 0, new int[6], 0);
        return g == -1 ? mostSeated : bestSeats[g];
    }

    int seen(int v, int m, int w) {
        if (!in(v, 0, 20) || !in(m, 1, 9) || !in(w, 0, 20)) {
            return OUTSIDE;
        }
        if (s.sights.size() == 8) {
            return FULL;
        }
        s.sights.add(new int[] {v, m, w});
        return s.sights.size();
    }

    int forget() {
        int was = s.sights.size();
        s.sights.clear();
        return was;
    }

    private static int later(int v, int m, int d) {
        return m == 0 ? v : later(Math.min(20, Math.max(0, v + d)), m - 1, d);
    }

    private List<Integer> numbers() {
        List<Integer> fit = new ArrayList<>();
        for (int d = -5; d <= 5; d++) {
            boolean so = true;
            for (int[] sight : s.sights) {
                so &= later(sight[0], sight[1], d) == sight[2];
            }
            if (so) {
                fit.add(d);
            }
        }
        return fit;
    }

    int does(int i) {
        List<Integer> fit = numbers();
        if (i == -1) {
            return fit.size();
        }
        return in(i, 0, fit.size() - 1) ? fit.get(i) + 10 : NONE;
    }

    int tries(int what) {
        if (!in(what, 0, 1)) {
            return OUTSIDE;
        }
        List<Integer> fit = numbers();
        if (fit.isEmpty()) {
            return NONE;
        }
        int best = 99;
        int at = NONE;
        for (int v = 20; v >= 0; v--) {
            int[] left = new int[21];
            int most = 0;
            for (int d : fit) {
                int w = later(v, 1, d);
                left[w]++;
                most = Math.max(most, left[w]);
            }
            if (most <= best) {
                best = most;
                at = v;
            }
        }
        return what == 0 ? at : best;
    }

    private static long part(BigInteger upper, BigInteger lower, int part) {
        BigInteger common = upper.gcd(lower);
        return (part == 0 ? upper : lower).divide(common).longValueExact();
    }

    /** What one has in the mean, times 10 to the m-th. */
    private static BigInteger mean(int n, int m, int t, int c) {
        BigInteger sent = BigInteger.valueOf(10 - n).multiply(BigInteger.TEN.pow(m));
        return m == 0 ? sent : sent.max(kept(n, m, t, c));
    }

    private static BigInteger kept(int n, int m, int t, int c) {
        return mean(n == 0 ? 0 : n - 1, m - 1, t, c).multiply(BigInteger.valueOf(t))
                .add(mean(n == 9 ? 9 : n + 1, m - 1, t, c).multiply(BigInteger.valueOf(10 - t)))
                .subtract(BigInteger.valueOf(c).multiply(BigInteger.TEN.pow(m)));
    }

    long home(int n, int m, int t, int c, int what, int part) {
        if (!in(n, 0, 9) || !in(m, 0, 9) || !in(t, 0, 10) || !in(c, 0, 9) || !in(what, 0, 1) || !in(part, 0, 1)) {
            return LOST + OUTSIDE;
        }
        BigInteger lower = BigInteger.TEN.pow(m);
        if (what == 1) {
            return m == 0 || BigInteger.valueOf(10 - n).multiply(lower).compareTo(kept(n, m, t, c)) >= 0 ? 1 : 0;
        }
        return part(mean(n, m, t, c), lower, part);
    }

    int bill(int c, int piece) {
        if (!isThere(piece)) {
            return UNKNOWN;
        }
        if (!in(c, 0, 9999)) {
            return OUTSIDE;
        }
        int total = 0;
        List<Integer> order = new ArrayList<>();
        for (int p = 0; p < 6; p++) {
            if (s.piece[p] != null) {
                total += s.ills(p) + 1;
                order.add(p);
            }
        }
        order.sort((p, q) -> s.ills(p) != s.ills(q) ? s.ills(q) - s.ills(p) : p - q);
        int[] pays = new int[6];
        int left = c;
        for (int p : order) {
            pays[p] = c * (s.ills(p) + 1) / total;
            left -= pays[p];
        }
        for (int i = 0; i < left; i++) {
            pays[order.get(i)]++;
        }
        return pays[piece];
    }

    /** Of 10 to the m-th. */
    private static long atMost(int damp, int does, int m, int t, int v) {
        if (m == 0) {
            return damp <= v ? 1 : 0;
        }
        long dry = t == 10 ? 0 : atMost(later(damp, 1, does), does, m - 1, t, v);
        long wet = t == 0 ? 0 : atMost(later(damp, 1, does + 1), does, m - 1, t, v);
        return dry * (10 - t) + wet * t;
    }

    long draughts(int p, int m, int t, int v, int part) {
        if (!isThere(p)) {
            return LOST + UNKNOWN;
        }
        if (!in(m, 0, 9) || !in(t, 0, 10) || !in(v, 0, 20) || !in(part, 0, 1)) {
            return LOST + OUTSIDE;
        }
        long upper = atMost(s.piece[p][2], s.room[s.piece[p][3]][2], m, t, v);
        return part(BigInteger.valueOf(upper), BigInteger.TEN.pow(m), part);
    }

    int week(int seed, int m, int what) {
        if (!in(seed, 0, 9999) || !in(m, 1, 99) || !in(what, 0, 2)) {
            return OUTSIDE;
        }
        State t = s.copy();
        long x = seed;
        for (int i = 0; i < m; i++) {
            x = (75 * x + 74) % 65537;
            char piece = (char) ('A' + x / 8 % 6);
            char room = (char) ('a' + x / 48 % 4);
            t.act(x % 8 < 4 ? "." : x % 8 < 6 ? piece + "!" : "" + piece + room);
        }
        int ills = 0;
        int well = 0;
        for (int p = 0; p < 6; p++) {
            ills += t.piece[p] == null ? 0 : t.ills(p);
            well += t.piece[p] != null && t.ills(p) == 0 ? 1 : 0;
        }
        return what == 0 ? ills : what == 1 ? well : t.hour - s.hour;
    }

    int image(int n) {
        if (!in(n, 0, 1)) {
            return OUTSIDE;
        }
        images[n] = s.copy();
        return 1;
    }

    int restore(int n) {
        if (!in(n, 0, 1)) {
            return OUTSIDE;
        }
        if (images[n] == null) {
            return STATE;
        }
        s = images[n].copy();
        return 1;
    }

    int told(int what) {
        if (in(what, 0, 4)) {
            int sat = 0;
            for (int p = 0; p < 6; p++) {
                sat += s.piece[p] != null && s.piece[p][4] == 1 ? 1 << p : 0;
            }
            return new int[] {pad.length(), s.there(), s.hour, s.sights.size(), sat}[what];
        }
        for (int p = 0; p < 6; p++) {
            for (int i = 0; i < 4; i++) {
                if (what == 10 * (1 + p) + i && s.piece[p] != null) {
                    return s.piece[p][i];
                }
                if (what == 100 * (1 + i) + p && p < 3) {
                    return s.room[i][p] + 10;
                }
            }
            for (int q = 0; q < 6; q++) {
                if (what == 500 + 6 * p + q && p != q) {
                    return s.bad[p][q] + 10;
                }
            }
            if (what == 600 + p) {
                return s.likes[p];
            }
        }
        return OUTSIDE;
    }
}
