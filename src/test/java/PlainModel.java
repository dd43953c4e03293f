import java.util.ArrayList;
import java.util.Collections;
import java.util.List;

/**
 * The document once more, cell by cell and by trying all there is, with no eye to speed or room.
 * It shares no code and no way of counting with the class, so that a slip in one shows.
 */
public final class PlainModel {
    static final int BAD = -1, FULL = -2, FINDING = -3, STATE = -4, NONE = -9;

    /** A box of cells; what it covers is told by each kind for itself. */
    static class Box {
        int kind, left, top, wide, high;
        boolean open = true;

        Box same() {
            Box b = new Box();
            b.kind = kind;
            b.left = left;
            b.top = top;
            b.wide = wide;
            b.high = high;
            b.open = open;
            return b;
        }

        boolean inBox(int c) {
            int x = c % 12;
            int y = c / 12;
            return x >= left && x < left + wide && y >= top && y < top + high;
        }

        boolean onScreen() {
            return left >= 0 && top >= 0 && left + wide <= 12 && top + high <= 8;
        }

        boolean coversAs(int k, int c) {
            if (!inBox(c)) {
                return false;
            }
            int x = c % 12;
            int y = c / 12;
            boolean border = x == left || y == top || x == left + wide - 1 || y == top + high - 1;
            if (k == 1) {
                return border;
            }
            if (k == 2) {
                return (x + y) % 2 == 0;
            }
            if (k == 4) {
                return coversAs(1, c) && (x == left || y == top);
            }
            if (k == 5) {
                return coversAs(2, c) && !border;
            }
            return true;
        }

        boolean covers(int c) {
            return coversAs(kind, c);
        }

        int many(int k) {
            int n = 0;
            for (int c = 0; c < 96; c++) {
                n += coversAs(k, c) ? 1 : 0;
            }
            return n;
        }
    }

    /** Boxes, and their numbers from the lowest to the uppermost. */
    static class State {
        List<Box> boxes = new ArrayList<>();
        List<Integer> order = new ArrayList<>();

        State same() {
            State s = new State();
            for (Box b : boxes) {
                s.boxes.add(b.same());
            }
            s.order.addAll(order);
            return s;
        }

        List<Integer> bySight() {
            List<Integer> all = new ArrayList<>();
            for (int i : order) {
                if (boxes.get(i).kind != 3) {
                    all.add(i);
                }
            }
            for (int i : order) {
                if (boxes.get(i).kind == 3) {
                    all.add(i);
                }
            }
            return all;
        }

        int[] picture() {
            int[] seen = new int[96];
            List<Integer> all = bySight();
            for (int c = 0; c < 96; c++) {
                seen[c] = -1;
                for (int i : all) {
                    if (boxes.get(i).open && boxes.get(i).covers(c)) {
                        seen[c] = i;
                    }
                }
            }
            return seen;
        }

        int cellsOf(int i) {
            int n = 0;
            for (int who : picture()) {
                n += who == i ? 1 : 0;
            }
            return n;
        }

        int howManySeen() {
            boolean[] is = new boolean[boxes.size()];
            for (int who : picture()) {
                if (who >= 0) {
                    is[who] = true;
                }
            }
            int n = 0;
            for (boolean b : is) {
                n += b ? 1 : 0;
            }
            return n;
        }

        boolean whole(int i) {
            int[] seen = picture();
            for (int c = 0; c < 96; c++) {
                if (boxes.get(i).covers(c) && seen[c] != i) {
                    return false;
                }
            }
            return true;
        }
    }

    final int[][] rows = new int[6][];
    final byte[][] texts = new byte[4][];
    State now = new State();
    /** The states ahead of each deed. */
    List<State> past = new ArrayList<>();
    final State[] keptNow = new State[3];
    final List<List<State>> keptPast = new ArrayList<>(Collections.nCopies(3, null));
    int asked = 0;
    long upper = 0;
    long lower = 1;
    int latest = 0;
    final int[] times = new int[6];

    private int find(int f) {
        latest = f;
        times[f]++;
        return FINDING;
    }

    private boolean isPane(int i) {
        return 0 <= i && i < now.boxes.size();
    }

    private static boolean among(int v, int low, int high) {
        return low <= v && v <= high;
    }

    public int row(int r, int n) {
        if (!among(r, 0, 5) || n > 40) return BAD;
        if (n < 0) return find(5);
        rows[r] = new int[n];
        return n;
    }

    public int lay(int r, int i, int v) {
        int a = at(r, i);
        if (a == 1) rows[r][i] = v;
        return a;
    }

    public int at(int r, int i) {
        if (!among(r, 0, 5)) return BAD;
        if (rows[r] == null) return find(1);
        if (!among(i, 0, rows[r].length - 1)) return find(2);
        asked = rows[r][i];
        return 1;
    }

    public int tear(int r) {
        if (!among(r, 0, 5)) return BAD;
        if (rows[r] == null) return find(1);
        rows[r] = null;
        return 1;
    }

    public int copy(int r, int i, int to, int j, int n) {
        if (!among(r, 0, 5) || !among(to, 0, 5)) return BAD;
        if (n < 0) return find(5);
        if (rows[r] == null || rows[to] == null) return find(1);
        if (i < 0 || j < 0 || (long) i + n > rows[r].length || (long) j + n > rows[to].length) return find(2);
        int[] taken = rows[r].clone();
        for (int k = 0; k < n; k++) rows[to][j + k] = taken[i + k];
        return 1;
    }

    public int mean(int r) {
        if (!among(r, 0, 5)) return BAD;
        if (rows[r] == null) return find(1);
        if (rows[r].length == 0) return find(4);
        long sum = 0;
        for (int v : rows[r]) sum += v;
        asked = (int) (sum / rows[r].length);
        return 1;
    }

    public int text(int t, int n) {
        if (!among(t, 0, 3) || n > 60) return BAD;
        if (n < 0) return find(5);
        texts[t] = new byte[n];
        for (int i = 0; i < n; i++) texts[t][i] = 32;
        return n;
    }

    public int put(int t, int i, int v) {
        if (!among(t, 0, 3)) return BAD;
        if (texts[t] == null) return find(1);
        if (!among(i, 0, texts[t].length - 1)) return find(2);
        int was = texts[t][i];
        texts[t][i] = (byte) v;
        return 1000 + was;
    }

    /** Sign by sign: which sign of an item is due next, 0 the letter. */
    private int read(byte[] t, State into) {
        int due = 0;
        Box b = null;
        for (int at = 0; at < t.length; at++) {
            int sign = t[at];
            if (due == 0) {
                if (sign == ' ') continue;
                int kind = sign < 0 ? -1 : "pfgthm".indexOf((char) sign);
                if (kind < 0 || into.boxes.size() == 7) return at;
                b = new Box();
                b.kind = kind;
            } else {
                if (sign < '0' || sign > '9') return at;
                int v = sign - '0';
                if (due == 1) b.left = v;
                if (due == 2) b.top = v;
                if (due == 2 && v > 7) return at;
                if (due == 3) b.wide = v;
                if (due == 3 && (v == 0 || b.left + v > 12)) return at;
                if (due == 4) b.high = v;
                if (due == 4 && (v == 0 || v == 9 || b.top + v > 8)) return at;
                if (due == 4) {
                    into.order.add(into.boxes.size());
                    into.boxes.add(b);
                }
            }
            due = (due + 1) % 5;
        }
        return due != 0 || into.boxes.size() < 2 ? t.length : NONE;
    }

    public int fault(int t) {
        if (!among(t, 0, 3)) return BAD;
        if (texts[t] == null) return find(1);
        return read(texts[t], new State());
    }

    public int screen(int t) {
        if (!among(t, 0, 3)) return BAD;
        if (texts[t] == null) return find(1);
        State s = new State();
        if (read(texts[t], s) != NONE) return STATE;
        now = s;
        past = new ArrayList<>();
        for (int k = 0; k < 3; k++) {
            keptNow[k] = null;
            keptPast.set(k, null);
        }
        return now.boxes.size();
    }

    private int tell(int i, int what) {
        Box b = now.boxes.get(i);
        int[] all = {b.kind, b.left, b.top, b.wide, b.high, now.order.indexOf(i), b.open ? 1 : 0, now.cellsOf(i)};
        return all[what];
    }

    public int pane(int i, int what) {
        if (!isPane(i) || !among(what, 0, 7)) return BAD;
        asked = tell(i, what);
        return 1;
    }

    private static final int[][] IS = {{0}, {0, 1}, {0, 2}, {0, 3}, {0, 1, 4}, {0, 2, 5}};

    private static boolean is(int kind, int other) {
        for (int k : IS[kind]) {
            if (k == other) return true;
        }
        return false;
    }

    public int mark(int i, int kind) {
        if (!isPane(i) || !among(kind, 1, 5)) return BAD;
        Box b = now.boxes.get(i);
        if (!is(b.kind, kind)) return find(3);
        int uncovered = 0;
        for (int c = 0; c < 96; c++) uncovered += b.inBox(c) && !b.covers(c) ? 1 : 0;
        if (kind == 1 || kind == 2) return uncovered;
        if (kind == 4) return b.many(1) - b.many(b.kind);
        if (kind == 5) return b.many(2) - b.many(b.kind);
        int n = 0;
        for (int k = now.order.indexOf(i) + 1; k < now.order.size(); k++) {
            n += now.boxes.get(now.order.get(k)).kind != 3 ? 1 : 0;
        }
        return n;
    }

    public int covers(int i, int c) {
        if (!isPane(i) || !among(c, 0, 95)) return BAD;
        return now.boxes.get(i).covers(c) ? 1 : 0;
    }

    private boolean full() {
        return past.size() >= 40;
    }

    private void deed() {
        past.add(now.same());
    }

    public int raise(int i) {
        if (!isPane(i)) return BAD;
        int was = now.order.indexOf(i);
        if (was == now.order.size() - 1) return STATE;
        if (full()) return FULL;
        deed();
        now.order.remove(was);
        now.order.add(i);
        return was;
    }

    public int sink(int i) {
        if (!isPane(i)) return BAD;
        int was = now.order.indexOf(i);
        if (was == 0) return STATE;
        if (full()) return FULL;
        deed();
        now.order.remove(was);
        now.order.add(0, i);
        return was;
    }

    public int move(int i, int x, int y) {
        if (!isPane(i) || !among(x, -3, 3) || !among(y, -3, 3) || (x == 0 && y == 0)) return BAD;
        Box b = now.boxes.get(i).same();
        b.left += x;
        b.top += y;
        if (!b.onScreen()) return STATE;
        if (full()) return FULL;
        deed();
        now.boxes.set(i, b);
        return b.top * 12 + b.left;
    }

    public int shut(int i) {
        if (!isPane(i)) return BAD;
        if (full()) return FULL;
        deed();
        now.boxes.get(i).open ^= true;
        return count(1);
    }

    public int undo(int n) {
        if (!among(n, 0, past.size())) return BAD;
        int undone = past.size() - n;
        if (undone > 0) {
            now = past.get(n);
            past = new ArrayList<>(past.subList(0, n));
        }
        return undone;
    }

    public int keep(int k) {
        if (!among(k, 0, 2)) return BAD;
        if (now.boxes.isEmpty()) return STATE;
        keptNow[k] = now.same();
        keptPast.set(k, copies(past));
        return past.size();
    }

    private static List<State> copies(List<State> all) {
        List<State> some = new ArrayList<>();
        for (State s : all) some.add(s.same());
        return some;
    }

    public int on(int k) {
        if (!among(k, 0, 2)) return BAD;
        if (keptNow[k] == null) return find(1);
        now = keptNow[k].same();
        past = copies(keptPast.get(k));
        return past.size();
    }

    public int seen(int c) {
        if (!among(c, 0, 95)) return BAD;
        int who = now.picture()[c];
        if (who < 0) return NONE;
        asked = 0;
        for (Box b : now.boxes) asked += b.open && b.covers(c) ? 1 : 0;
        return who;
    }

    public int buried() {
        int bits = 0;
        for (int i = 0; i < now.boxes.size(); i++) {
            if (now.boxes.get(i).open && now.cellsOf(i) == 0) bits |= 1 << i;
        }
        asked = 0;
        for (int who : now.picture()) asked += who < 0 ? 1 : 0;
        return bits;
    }

    public int both(int i, int j) {
        if (!isPane(i) || !isPane(j) || i == j) return BAD;
        int n = 0;
        for (int c = 0; c < 96; c++) n += now.boxes.get(i).covers(c) && now.boxes.get(j).covers(c) ? 1 : 0;
        asked = now.bySight().indexOf(i) > now.bySight().indexOf(j) ? i : j;
        return n;
    }

    private int openPane(int i) {
        if (!isPane(i)) return BAD;
        return now.boxes.get(i).open ? 0 : STATE;
    }

    /** By the smallest of all sets that do. */
    public int free(int i) {
        int no = openPane(i);
        if (no != 0) return no;
        int best = -1;
        for (int set = 0; set < 1 << now.boxes.size(); set++) {
            if ((set >> i & 1) == 0 && (best < 0 || Integer.bitCount(set) < Integer.bitCount(best))
                    && without(set).whole(i)) {
                best = set;
            }
        }
        asked = Integer.bitCount(best);
        return best;
    }

    private State without(int set) {
        State s = now.same();
        for (int j = 0; j < s.boxes.size(); j++) {
            if ((set >> j & 1) != 0) s.boxes.get(j).open = false;
        }
        return s;
    }

    public int shift(int i) {
        int no = openPane(i);
        if (no != 0) return no;
        int best = -1;
        int code = 0;
        for (int x = -3; x <= 3; x++) {
            for (int y = -3; y <= 3; y++) {
                State s = now.same();
                s.boxes.get(i).left += x;
                s.boxes.get(i).top += y;
                if (s.boxes.get(i).onScreen() && s.cellsOf(i) > best) {
                    best = s.cellsOf(i);
                    code = 10 * (3 + x) + 3 + y;
                }
            }
        }
        asked = best;
        return code;
    }

    private int bestSeen;
    private List<Integer> bestOrder;

    public int order(int r) {
        if (!among(r, 0, 5)) return BAD;
        if (now.boxes.isEmpty()) return STATE;
        bestSeen = -1;
        tryOrders(now.same(), new ArrayList<>());
        rows[r] = new int[bestOrder.size()];
        for (int k = 0; k < rows[r].length; k++) rows[r][k] = bestOrder.get(k);
        return bestSeen;
    }

    private void tryOrders(State s, List<Integer> some) {
        if (some.size() == s.boxes.size()) {
            s.order = some;
            int n = s.howManySeen();
            if (n > bestSeen) {
                bestSeen = n;
                bestOrder = new ArrayList<>(some);
            }
            return;
        }
        for (int i = 0; i < s.boxes.size(); i++) {
            if (!some.contains(i)) {
                some.add(i);
                tryOrders(s, some);
                some.remove(some.size() - 1);
            }
        }
    }

    private int sights(int i, int r) {
        if (!isPane(i) || !among(r, 0, 5)) return BAD;
        if (rows[r] == null) return find(1);
        if (rows[r].length % 2 == 1) return find(5);
        for (int k = 0; k < rows[r].length; k += 2) {
            if (!among(rows[r][k], 0, 95) || !among(rows[r][k + 1], -1, now.boxes.size() - 1)) return find(3);
        }
        return 0;
    }

    private boolean fits(State s, int[] row) {
        int[] seen = s.picture();
        for (int k = 0; k < row.length; k += 2) {
            if (seen[row[k]] != row[k + 1]) return false;
        }
        return true;
    }

    private State asKind(int i, int kind) {
        State s = now.same();
        s.boxes.get(i).kind = kind;
        return s;
    }

    private int kindSet(int i, int r) {
        int bits = 0;
        for (int k = 0; k < 6; k++) bits |= fits(asKind(i, k), rows[r]) ? 1 << k : 0;
        return bits;
    }

    public int kinds(int i, int r) {
        int no = sights(i, r);
        return no != 0 ? no : kindSet(i, r);
    }

    public int places(int i, int r) {
        int no = sights(i, r);
        if (no != 0) return no;
        int n = 0;
        int first = 0;
        for (int y = 0; y < 8; y++) {
            for (int x = 0; x < 12; x++) {
                State s = now.same();
                s.boxes.get(i).left = x;
                s.boxes.get(i).top = y;
                if (s.boxes.get(i).onScreen() && fits(s, rows[r])) {
                    if (n == 0) first = 12 * y + x;
                    n++;
                }
            }
        }
        if (n == 0) return NONE;
        asked = first;
        return n;
    }

    public int test(int i, int r) {
        int no = sights(i, r);
        if (no != 0) return no;
        int set = kindSet(i, r);
        if (set == 0) return NONE;
        List<int[]> pictures = new ArrayList<>();
        for (int k = 0; k < 6; k++) {
            if ((set >> k & 1) != 0) pictures.add(asKind(i, k).picture());
        }
        int least = 99;
        int cell = -1;
        for (int c = 0; c < 96; c++) {
            int greatest = 0;
            for (int[] one : pictures) {
                int alike = 0;
                for (int[] other : pictures) alike += one[c] == other[c] ? 1 : 0;
                greatest = Math.max(greatest, alike);
            }
            if (greatest < least) {
                least = greatest;
                cell = c;
            }
        }
        asked = least;
        return cell;
    }

    public int duel(int i, int n) {
        if (!isPane(i) || !among(n, 0, 4)) return BAD;
        return turn(now.same(), i, n, true);
    }

    private int turn(State s, int i, int left, boolean first) {
        if (left == 0) return s.cellsOf(i);
        int best = first ? -1 : 1000;
        for (int j = 0; j < s.boxes.size(); j++) {
            List<Integer> before = s.order;
            s.order = new ArrayList<>(before);
            s.order.remove(Integer.valueOf(j));
            s.order.add(j);
            int v = turn(s, i, left - 1, !first);
            s.order = before;
            best = first ? Math.max(best, v) : Math.min(best, v);
        }
        return best;
    }

    private void fraction(long a, long b) {
        long g = java.math.BigInteger.valueOf(a).gcd(java.math.BigInteger.valueOf(b)).longValue();
        upper = a / g;
        lower = b / g;
    }

    /** Over every set of others that may be shut, with its weight. */
    private int weigh(int i, int p, boolean whole) {
        if (!among(p, 0, 12)) return BAD;
        int no = openPane(i);
        if (no != 0) return no;
        int others = 0;
        for (int j = 0; j < now.boxes.size(); j++) {
            if (j != i && now.boxes.get(j).open) others |= 1 << j;
        }
        long sum = 0;
        long all = 0;
        for (int set = 0; set < 1 << now.boxes.size(); set++) {
            if ((set & ~others) == 0) {
                long weight = 1;
                for (int j = 0; j < 7; j++) {
                    if ((others >> j & 1) != 0) weight *= (set >> j & 1) != 0 ? p : 12 - p;
                }
                State s = without(set);
                sum += weight * (whole ? (s.whole(i) ? 1 : 0) : s.cellsOf(i));
                all += weight;
            }
        }
        fraction(sum, all);
        return 1;
    }

    public int odds(int i, int p) {
        return weigh(i, p, true);
    }

    public int mid(int i, int p) {
        return weigh(i, p, false);
    }

    public int lots(int n, int seed) {
        if (!among(n, 1, 20) || !among(seed, 1, 2147483646)) return BAD;
        if (now.boxes.isEmpty()) return STATE;
        if (past.size() + n > 40) return FULL;
        long it = seed;
        for (int k = 0; k < n; k++) {
            it = it * 48271 % 2147483647;
            int i = (int) (it / 8 % now.boxes.size());
            int deeds = past.size();
            if (it % 4 == 0) raise(i);
            if (it % 4 == 1) sink(i);
            if (it % 4 == 2) move(i, (int) (it / 128 % 7) - 3, (int) (it / 1024 % 7) - 3);
            if (it % 4 == 3) shut(i);
            if (past.size() == deeds) deed();
        }
        return now.howManySeen();
    }

    public int asked() {
        return asked;
    }

    public long upper() {
        return upper;
    }

    public long lower() {
        return lower;
    }

    public int count(int what) {
        if (!among(what, 0, 10)) return BAD;
        int n = 0;
        switch (what) {
            case 0:
                return now.boxes.size();
            case 1:
                for (Box b : now.boxes) n += b.open ? 1 : 0;
                return n;
            case 2:
                return past.size();
            case 3:
                return now.howManySeen();
            case 4:
                for (int who : now.picture()) n += who >= 0 ? 1 : 0;
                return n;
            case 5:
                for (int i = 0; i < now.boxes.size(); i++) n |= now.boxes.get(i).open ? 0 : 1 << i;
                return n;
            case 6:
                for (int[] r : rows) n += r != null ? 1 : 0;
                return n;
            case 7:
                for (byte[] t : texts) n += t != null ? 1 : 0;
                return n;
            case 8:
                for (State s : keptNow) n += s != null ? 1 : 0;
                return n;
            case 9:
                for (Box b : now.boxes) n += is(b.kind, 1) ? 1 : 0;
                return n;
            default:
                for (Box b : now.boxes) n += is(b.kind, 2) ? 1 : 0;
                return n;
        }
    }

    public int finding() {
        return latest;
    }

    public int findings(int f) {
        return among(f, 1, 5) ? times[f] : BAD;
    }

    public long digest() {
        List<Integer> all = new ArrayList<>();
        for (int w = 0; w <= 10; w++) all.add(count(w));
        for (int i = 0; i < now.boxes.size(); i++) {
            for (int w = 0; w <= 7; w++) all.add(tell(i, w));
        }
        for (List<State> k : keptPast) all.add(k == null ? -1 : k.size());
        for (int[] r : rows) {
            all.add(r == null ? -1 : r.length);
            if (r != null) for (int v : r) all.add(v);
        }
        for (byte[] t : texts) {
            all.add(t == null ? -1 : t.length);
            if (t != null) for (byte v : t) all.add((int) v);
        }
        long h = 17;
        for (int v : all) h = 31 * h + v;
        return h;
    }
}
