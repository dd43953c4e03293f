import java.util.Arrays;

/**
 * Panes that lie over one another on a screen of 12 columns and 8 lines.
 *
 * <p>All rows are made by the constructor and used again: no call makes an object.
 */
public final class PaneOrder {
    public static final int BAD = -1, FULL = -2, FINDING = -3, STATE = -4, SPENT = -6, NONE = -9;

    private static final int NOTHING = 1, BEYOND = 2, UNLIKE = 3, NOUGHT = 4, SIZE = 5, FINDINGS = 5;
    private static final int ROWS = 6, MOST_INTS = 40, TEXTS = 4, MOST_BYTES = 60, KEPT = 3;
    private static final int MISSING = -1, NOBODY = -1;
    private static final int COLUMNS = 12, LINES = 8, CELLS = 96, HALF = 48;
    private static final int FEWEST_PANES = 2, MOST_PANES = 7, MOST_DEEDS = 40, FARTHEST = 3;
    private static final int PANE = 0, FRAME = 1, GLASS = 2, TOP = 3, HOOK = 4, MIST = 5, KINDS = 6;
    private static final int[] LETTERS = {112, 102, 103, 116, 104, 109};
    private static final int BLANK = 32, FIGURE_0 = 48, FIGURES_OF_A_PANE = 4;
    private static final int REORDERED = 0, MOVED = 1, TURNED = 2, IDLE = 3;
    private static final int LAST_OF_PANE = 7, LAST_COUNT = 10;
    private static final int MOST_TURNS = 4, PARTS = 12, MOST_LOTS = 20;
    private static final long LOT_FACTOR = 48271L, LOT_MODULUS = 2147483647L;

    private final Row[] rows = new Row[ROWS];
    private final Text[] texts = new Text[TEXTS];
    private final Screen screen = new Screen();
    private final Deeds deeds = new Deeds();
    private final Screen[] keptScreens = new Screen[KEPT];
    private final Deeds[] keptDeeds = new Deeds[KEPT];
    /** What would be, if: changed freely, never told as the SCREEN. */
    private final Screen aside = new Screen();
    private final BestOrder bestOrder = new BestOrder();
    private final Turns turns = new Turns();
    /** By who is SEEN (nobody first), then by CELL: by how many KINDS. */
    private final int[][] parts = new int[MOST_PANES + 1][CELLS];
    private final int[] foundTimes = new int[FINDINGS + 1];
    private int latestFinding = 0;
    private int told = 0;
    private long upperNumber = 0;
    private long lowerNumber = 1;

    public PaneOrder() {
        for (int r = 0; r < ROWS; r++) {
            rows[r] = new Row();
        }
        for (int t = 0; t < TEXTS; t++) {
            texts[t] = new Text();
        }
        for (int k = 0; k < KEPT; k++) {
            keptScreens[k] = new Screen();
            keptDeeds[k] = new Deeds();
            keptDeeds[k].size = MISSING;
        }
    }

    // ---- 1 rows, texts, screens

    public int row(int r, int n) {
        if (!isRow(r) || n > MOST_INTS) {
            return BAD;
        }
        if (n < 0) {
            return found(SIZE);
        }
        rows[r].renew(n);
        return n;
    }

    public int lay(int r, int i, int v) {
        int refusal = refusalOfPlace(r, i);
        if (refusal != 0) {
            return refusal;
        }
        told = rows[r].ints[i];
        rows[r].ints[i] = v;
        return 1;
    }

    public int at(int r, int i) {
        int refusal = refusalOfPlace(r, i);
        if (refusal != 0) {
            return refusal;
        }
        told = rows[r].ints[i];
        return 1;
    }

    public int tear(int r) {
        if (!isRow(r)) {
            return BAD;
        }
        if (rows[r].size == MISSING) {
            return found(NOTHING);
        }
        rows[r].size = MISSING;
        return 1;
    }

    public int copy(int r, int i, int to, int j, int n) {
        if (!isRow(r) || !isRow(to)) {
            return BAD;
        }
        if (n < 0) {
            return found(SIZE);
        }
        if (rows[r].size == MISSING || rows[to].size == MISSING) {
            return found(NOTHING);
        }
        if (!rows[r].hasPlaces(i, n) || !rows[to].hasPlaces(j, n)) {
            return found(BEYOND);
        }
        System.arraycopy(rows[r].ints, i, rows[to].ints, j, n);
        return 1;
    }

    public int mean(int r) {
        if (!isRow(r)) {
            return BAD;
        }
        if (rows[r].size == MISSING) {
            return found(NOTHING);
        }
        if (rows[r].size == 0) {
            return found(NOUGHT);
        }
        told = (int) (rows[r].sum() / rows[r].size);
        return 1;
    }

    public int text(int t, int n) {
        if (!isText(t) || n > MOST_BYTES) {
            return BAD;
        }
        if (n < 0) {
            return found(SIZE);
        }
        texts[t].renew(n);
        return n;
    }

    public int put(int t, int i, int v) {
        if (!isText(t)) {
            return BAD;
        }
        if (texts[t].size == MISSING) {
            return found(NOTHING);
        }
        if (i < 0 || i >= texts[t].size) {
            return found(BEYOND);
        }
        int was = texts[t].bytes[i];
        texts[t].bytes[i] = (byte) v;
        return was + 1000;
    }

    public int fault(int t) {
        if (!isText(t)) {
            return BAD;
        }
        if (texts[t].size == MISSING) {
            return found(NOTHING);
        }
        return texts[t].readInto(aside);
    }

    public int screen(int t) {
        if (!isText(t)) {
            return BAD;
        }
        if (texts[t].size == MISSING) {
            return found(NOTHING);
        }
        if (texts[t].readInto(aside) != NONE) {
            return STATE;
        }
        screen.become(aside);
        deeds.size = 0;
        for (int k = 0; k < KEPT; k++) {
            keptDeeds[k].size = MISSING;
        }
        return screen.size;
    }

    public int pane(int i, int what) {
        if (!screen.has(i) || what < 0 || what > LAST_OF_PANE) {
            return BAD;
        }
        told = ofPane(i, what);
        return 1;
    }

    public int mark(int i, int kind) {
        if (!screen.has(i) || kind <= PANE || kind >= KINDS) {
            return BAD;
        }
        Pane p = screen.panes[i];
        if (!isOf(p.kind, kind)) {
            return found(UNLIKE);
        }
        switch (kind) {
            case TOP:
                return screen.notTopAfter(i);
            case HOOK:
                return p.coveredAs(FRAME) - p.covered();
            case MIST:
                return p.coveredAs(GLASS) - p.covered();
            default:
                return p.wide * p.high - p.covered();
        }
    }

    public int covers(int i, int c) {
        if (!screen.has(i) || !isCell(c)) {
            return BAD;
        }
        return screen.panes[i].hasCell(c) ? 1 : 0;
    }

    // ---- 2 deeds

    public int raise(int i) {
        return reorder(i, screen.size - 1);
    }

    public int sink(int i) {
        return reorder(i, 0);
    }

    public int move(int i, int x, int y) {
        if (!screen.has(i) || !isNear(x) || !isNear(y) || (x == 0 && y == 0)) {
            return BAD;
        }
        Pane p = screen.panes[i];
        if (!p.fitsAt(p.left + x, p.top + y)) {
            return STATE;
        }
        if (!deeds.hasRoomFor(1)) {
            return FULL;
        }
        p.lieAt(p.left + x, p.top + y);
        deeds.note(MOVED, i, x, y);
        return p.top * COLUMNS + p.left;
    }

    public int shut(int i) {
        if (!screen.has(i)) {
            return BAD;
        }
        if (!deeds.hasRoomFor(1)) {
            return FULL;
        }
        screen.panes[i].open = !screen.panes[i].open;
        deeds.note(TURNED, i, 0, 0);
        return screen.howManyOpen();
    }

    public int undo(int n) {
        if (n < 0 || n > deeds.size) {
            return BAD;
        }
        int undone = deeds.size - n;
        for (int k = 0; k < undone; k++) {
            deeds.takeBackLast(screen);
        }
        return undone;
    }

    public int keep(int k) {
        if (!isKept(k)) {
            return BAD;
        }
        if (screen.size == 0) {
            return STATE;
        }
        keptScreens[k].become(screen);
        keptDeeds[k].become(deeds);
        return deeds.size;
    }

    public int on(int k) {
        if (!isKept(k)) {
            return BAD;
        }
        if (keptDeeds[k].size == MISSING) {
            return found(NOTHING);
        }
        screen.become(keptScreens[k]);
        deeds.become(keptDeeds[k]);
        return deeds.size;
    }

    // ---- 3 what is seen

    public int seen(int c) {
        if (!isCell(c)) {
            return BAD;
        }
        int who = screen.whoAt(c);
        if (who == NOBODY) {
            return NONE;
        }
        told = screen.howManyCover(c);
        return who;
    }

    public int buried() {
        told = CELLS - screen.cellsThatShowOne();
        return screen.unseenOpenOnes();
    }

    public int both(int i, int j) {
        if (!screen.has(i) || !screen.has(j) || i == j) {
            return BAD;
        }
        Pane p = screen.panes[i];
        Pane q = screen.panes[j];
        told = p.rank() > q.rank() ? i : j;
        return p.cellsShared(q);
    }

    // ---- 4 what to do (aside)

    public int free(int i) {
        int refusal = refusalOfOpen(i);
        if (refusal != 0) {
            return refusal;
        }
        int inTheWay = screen.inTheWayOf(i);
        told = Integer.bitCount(inTheWay);
        return inTheWay;
    }

    public int shift(int i) {
        int refusal = refusalOfOpen(i);
        if (refusal != 0) {
            return refusal;
        }
        aside.become(screen);
        Pane p = aside.panes[i];
        int left = p.left;
        int top = p.top;
        int most = -1;
        int best = 0;
        for (int x = -FARTHEST; x <= FARTHEST; x++) {
            for (int y = -FARTHEST; y <= FARTHEST; y++) {
                int cells = -1;
                if (p.fitsAt(left + x, top + y)) {
                    p.lieAt(left + x, top + y);
                    cells = aside.shownNow(i);
                }
                if (cells > most) {
                    most = cells;
                    best = 10 * (FARTHEST + x) + FARTHEST + y;
                }
            }
        }
        told = most;
        return best;
    }

    public int order(int r) {
        if (!isRow(r)) {
            return BAD;
        }
        if (screen.size == 0) {
            return STATE;
        }
        rows[r].renew(screen.size);
        return bestOrder.findInto(rows[r].ints, screen);
    }

    // ---- 5 which pane it is

    public int kinds(int i, int r) {
        int refusal = refusalOfSights(i, r);
        return refusal != 0 ? refusal : possibleKinds(i, rows[r]);
    }

    public int places(int i, int r) {
        int refusal = refusalOfSights(i, r);
        if (refusal != 0) {
            return refusal;
        }
        aside.become(screen);
        Pane p = aside.panes[i];
        int many = 0;
        int lowest = 0;
        for (int c = CELLS - 1; c >= 0; c--) {
            if (p.fitsAt(c % COLUMNS, c / COLUMNS)) {
                p.lieAt(c % COLUMNS, c / COLUMNS);
                if (aside.agreesWith(rows[r])) {
                    many++;
                    lowest = c;
                }
            }
        }
        if (many == 0) {
            return NONE;
        }
        told = lowest;
        return many;
    }

    public int test(int i, int r) {
        int refusal = refusalOfSights(i, r);
        if (refusal != 0) {
            return refusal;
        }
        int possible = possibleKinds(i, rows[r]);
        if (possible == 0) {
            return NONE;
        }
        sortIntoParts(i, possible);
        int least = greatestPart(0);
        int best = 0;
        for (int c = 1; c < CELLS; c++) {
            int greatest = greatestPart(c);
            if (greatest < least) {
                least = greatest;
                best = c;
            }
        }
        told = least;
        return best;
    }

    // ---- 6 by turns

    public int duel(int i, int n) {
        if (!screen.has(i) || n < 0 || n > MOST_TURNS) {
            return BAD;
        }
        return turns.cellsInTheEnd(screen, i, n);
    }

    // ---- 7 chances, lots

    public int odds(int i, int p) {
        int refusal = refusalOfChance(i, p);
        if (refusal != 0) {
            return refusal;
        }
        int many = Integer.bitCount(screen.inTheWayOf(i));
        tellFraction(power(p, many), power(PARTS, many));
        return 1;
    }

    public int mid(int i, int p) {
        int refusal = refusalOfChance(i, p);
        if (refusal != 0) {
            return refusal;
        }
        int others = screen.size - 1;
        long sum = 0;
        for (int c = 0; c < CELLS; c++) {
            if (screen.panes[i].hasCell(c)) {
                int over = screen.howManyOver(i, c);
                sum += power(p, over) * power(PARTS, others - over);
            }
        }
        tellFraction(sum, power(PARTS, others));
        return 1;
    }

    public int lots(int n, int seed) {
        if (n < 1 || n > MOST_LOTS || seed < 1 || seed >= LOT_MODULUS) {
            return BAD;
        }
        if (screen.size == 0) {
            return STATE;
        }
        if (!deeds.hasRoomFor(n)) {
            return FULL;
        }
        int lot = seed;
        for (int k = 0; k < n; k++) {
            lot = (int) (LOT_FACTOR * lot % LOT_MODULUS);
            doByLot(lot);
        }
        return screen.howManySeen();
    }

    // ---- 8 what is told

    public int asked() {
        return told;
    }

    public long upper() {
        return upperNumber;
    }

    public long lower() {
        return lowerNumber;
    }

    public int count(int what) {
        return what < 0 || what > LAST_COUNT ? BAD : ofAll(what);
    }

    public int finding() {
        return latestFinding;
    }

    public int findings(int f) {
        return f < 1 || f > FINDINGS ? BAD : foundTimes[f];
    }

    public long digest() {
        long h = 17;
        for (int what = 0; what <= LAST_COUNT; what++) {
            h = 31 * h + ofAll(what);
        }
        for (int i = 0; i < screen.size; i++) {
            for (int what = 0; what <= LAST_OF_PANE; what++) {
                h = 31 * h + ofPane(i, what);
            }
        }
        for (int k = 0; k < KEPT; k++) {
            h = 31 * h + keptDeeds[k].size;
        }
        for (int r = 0; r < ROWS; r++) {
            h = rows[r].digestFrom(h);
        }
        for (int t = 0; t < TEXTS; t++) {
            h = texts[t].digestFrom(h);
        }
        return h;
    }

    // ---- what may be asked for

    private static boolean isRow(int r) {
        return r >= 0 && r < ROWS;
    }

    private static boolean isText(int t) {
        return t >= 0 && t < TEXTS;
    }

    private static boolean isKept(int k) {
        return k >= 0 && k < KEPT;
    }

    private static boolean isCell(int c) {
        return c >= 0 && c < CELLS;
    }

    private static boolean isNear(int way) {
        return way >= -FARTHEST && way <= FARTHEST;
    }

    /** Whether who is of a KIND IS of another one, too. */
    private static boolean isOf(int kind, int other) {
        return kind == other || other == PANE
                || (kind == HOOK && other == FRAME) || (kind == MIST && other == GLASS);
    }

    private int found(int f) {
        latestFinding = f;
        foundTimes[f]++;
        return FINDING;
    }

    /** 0, if there is such a place of a ROW. */
    private int refusalOfPlace(int r, int i) {
        if (!isRow(r)) {
            return BAD;
        }
        if (rows[r].size == MISSING) {
            return found(NOTHING);
        }
        return rows[r].hasPlaces(i, 1) ? 0 : found(BEYOND);
    }

    /** 0, if there is such a PANE and it is OPEN. */
    private int refusalOfOpen(int i) {
        if (!screen.has(i)) {
            return BAD;
        }
        return screen.panes[i].open ? 0 : STATE;
    }

    /** 0, if a chance of so many twelfths can be told of a PANE. */
    private int refusalOfChance(int i, int p) {
        return p < 0 || p > PARTS ? BAD : refusalOfOpen(i);
    }

    /** 0, if there is such a PANE and the ROW tells what was SEEN at CELLS. */
    private int refusalOfSights(int i, int r) {
        if (!screen.has(i) || !isRow(r)) {
            return BAD;
        }
        if (rows[r].size == MISSING) {
            return found(NOTHING);
        }
        if (rows[r].size % 2 != 0) {
            return found(SIZE);
        }
        for (int k = 0; k + 1 < rows[r].size; k += 2) {
            int who = rows[r].ints[k + 1];
            if (!isCell(rows[r].ints[k]) || (who != NOBODY && !screen.has(who))) {
                return found(UNLIKE);
            }
        }
        return 0;
    }

    // ---- how it is found out

    private int ofPane(int i, int what) {
        Pane p = screen.panes[i];
        switch (what) {
            case 0:
                return p.kind;
            case 1:
                return p.left;
            case 2:
                return p.top;
            case 3:
                return p.wide;
            case 4:
                return p.high;
            case 5:
                return p.place;
            case 6:
                return p.open ? 1 : 0;
            default:
                return screen.shownNow(i);
        }
    }

    private int ofAll(int what) {
        switch (what) {
            case 0:
                return screen.size;
            case 1:
                return screen.howManyOpen();
            case 2:
                return deeds.size;
            case 3:
                return screen.howManySeen();
            case 4:
                return screen.cellsThatShowOne();
            case 5:
                return screen.shutOnes();
            case 6:
                return rowsThere();
            case 7:
                return textsThere();
            case 8:
                return keptThere();
            case 9:
                return screen.howManyAre(FRAME);
            default:
                return screen.howManyAre(GLASS);
        }
    }

    private int rowsThere() {
        int many = 0;
        for (int r = 0; r < ROWS; r++) {
            many += rows[r].size == MISSING ? 0 : 1;
        }
        return many;
    }

    private int textsThere() {
        int many = 0;
        for (int t = 0; t < TEXTS; t++) {
            many += texts[t].size == MISSING ? 0 : 1;
        }
        return many;
    }

    private int keptThere() {
        int many = 0;
        for (int k = 0; k < KEPT; k++) {
            many += keptDeeds[k].size == MISSING ? 0 : 1;
        }
        return many;
    }

    private int reorder(int i, int to) {
        if (!screen.has(i)) {
            return BAD;
        }
        int from = screen.panes[i].place;
        if (from == to) {
            return STATE;
        }
        if (!deeds.hasRoomFor(1)) {
            return FULL;
        }
        screen.placeAt(i, to);
        deeds.note(REORDERED, i, from, 0);
        return from;
    }

    private void doByLot(int lot) {
        int i = screen.size == 0 ? 0 : lot / 8 % screen.size;
        int answer;
        switch (lot % 4) {
            case 0:
                answer = raise(i);
                break;
            case 1:
                answer = sink(i);
                break;
            case 2:
                answer = move(i, lot / 128 % 7 - FARTHEST, lot / 1024 % 7 - FARTHEST);
                break;
            default:
                answer = shut(i);
                break;
        }
        if (answer < 0) {
            deeds.note(IDLE, i, 0, 0);
        }
    }

    private int possibleKinds(int i, Row sights) {
        aside.become(screen);
        int possible = 0;
        for (int kind = 0; kind < KINDS; kind++) {
            aside.panes[i].turnInto(kind);
            if (aside.agreesWith(sights)) {
                possible |= 1 << kind;
            }
        }
        return possible;
    }

    private void sortIntoParts(int i, int possible) {
        for (int who = 0; who <= MOST_PANES; who++) {
            Arrays.fill(parts[who], 0);
        }
        aside.become(screen);
        for (int kind = 0; kind < KINDS; kind++) {
            if ((possible >> kind & 1) != 0) {
                aside.panes[i].turnInto(kind);
                for (int c = 0; c < CELLS; c++) {
                    parts[aside.whoAt(c) + 1][c]++;
                }
            }
        }
    }

    private int greatestPart(int c) {
        int greatest = 0;
        for (int who = 0; who <= MOST_PANES; who++) {
            greatest = Math.max(greatest, parts[who][c]);
        }
        return greatest;
    }

    private static long power(int base, int times) {
        long product = 1;
        for (int k = 0; k < times; k++) {
            product *= base;
        }
        return product;
    }

    private void tellFraction(long above, long below) {
        long a = above;
        long b = below;
        // Euclid's steps on numbers of 64 bits are fewer than 100.
        for (int k = 0; k < 100 && b != 0; k++) {
            long rest = a % b;
            a = b;
            b = rest;
        }
        if (a > 0) {
            upperNumber = above / a;
            lowerNumber = below / a;
        }
    }

    private static final class Row {
        final int[] ints = new int[MOST_INTS];
        int size = MISSING;

        void renew(int n) {
            Arrays.fill(ints, 0);
            size = n;
        }

        /** Not by i + n, which may go beyond what an int holds. */
        boolean hasPlaces(int i, int n) {
            return i >= 0 && i <= size - n;
        }

        long sum() {
            long sum = 0;
            for (int i = 0; i < size; i++) {
                sum += ints[i];
            }
            return sum;
        }

        long digestFrom(long before) {
            long h = 31 * before + size;
            for (int i = 0; i < size; i++) {
                h = 31 * h + ints[i];
            }
            return h;
        }
    }

    private static final class Text {
        final byte[] bytes = new byte[MOST_BYTES];
        int size = MISSING;

        void renew(int n) {
            Arrays.fill(bytes, (byte) BLANK);
            size = n;
        }

        /** Lays the PANES that are told on a SCREEN, and answers the FAULT, or NONE. */
        int readInto(Screen into) {
            into.size = 0;
            for (int at = 0; at < size; at++) {
                if (bytes[at] != BLANK) {
                    if (into.size >= MOST_PANES) {
                        return at;
                    }
                    int wrong = readPane(at, into.panes[into.size]);
                    if (wrong != NONE) {
                        return wrong;
                    }
                    into.panes[into.size].place = into.size;
                    into.size++;
                    at += FIGURES_OF_A_PANE;
                }
            }
            return into.size < FEWEST_PANES ? size : NONE;
        }

        private int readPane(int at, Pane into) {
            int kind = kindAt(at);
            if (kind < 0) {
                return at;
            }
            int left = figureAt(at + 1, 0, 9);
            if (left < 0) {
                return at + 1;
            }
            int top = figureAt(at + 2, 0, LINES - 1);
            if (top < 0) {
                return at + 2;
            }
            int wide = figureAt(at + 3, 1, Math.min(9, COLUMNS - left));
            if (wide < 0) {
                return at + 3;
            }
            int high = figureAt(at + 4, 1, LINES - top);
            if (high < 0) {
                return at + 4;
            }
            into.wide = wide;
            into.high = high;
            into.kind = kind;
            into.open = true;
            into.lieAt(left, top);
            return NONE;
        }

        private int kindAt(int at) {
            for (int kind = 0; kind < KINDS; kind++) {
                if (bytes[at] == LETTERS[kind]) {
                    return kind;
                }
            }
            return -1;
        }

        /** The figure, or -1: none such, or the TEXT ends ahead of it. */
        private int figureAt(int at, int least, int most) {
            if (at >= size) {
                return -1;
            }
            int figure = bytes[at] - FIGURE_0;
            return figure < least || figure > most ? -1 : figure;
        }

        long digestFrom(long before) {
            long h = 31 * before + size;
            for (int i = 0; i < size; i++) {
                h = 31 * h + bytes[i];
            }
            return h;
        }
    }

    private static final class Pane {
        int kind = PANE;
        int left = 0;
        int top = 0;
        int wide = 1;
        int high = 1;
        int place = 0;
        boolean open = true;
        /** Which CELLS it COVERS, by bits, as no one number has 96: LINES 0 to 3, then 4 to 7. */
        long upperHalf = 0;
        long lowerHalf = 0;

        void become(Pane other) {
            kind = other.kind;
            left = other.left;
            top = other.top;
            wide = other.wide;
            high = other.high;
            place = other.place;
            open = other.open;
            upperHalf = other.upperHalf;
            lowerHalf = other.lowerHalf;
        }

        /** By its height over all others, as it counts for what is SEEN: a TOP one is over those that are not. */
        int rank() {
            return kind == TOP ? MOST_PANES + place : place;
        }

        boolean fitsAt(int column, int line) {
            return column >= 0 && column + wide <= COLUMNS && line >= 0 && line + high <= LINES;
        }

        void lieAt(int column, int line) {
            left = column;
            top = line;
            findCells();
        }

        void turnInto(int newKind) {
            kind = newKind;
            findCells();
        }

        private void findCells() {
            upperHalf = 0;
            lowerHalf = 0;
            for (int line = top; line < top + high; line++) {
                for (int column = left; column < left + wide; column++) {
                    if (reaches(kind, column, line)) {
                        addCell(line * COLUMNS + column);
                    }
                }
            }
        }

        private void addCell(int c) {
            if (c < HALF) {
                upperHalf |= 1L << c;
            } else {
                lowerHalf |= 1L << (c - HALF);
            }
        }

        /** Whether one of a KIND with this box would COVER a CELL within it. */
        private boolean reaches(int asKind, int column, int line) {
            boolean first = column == left || line == top;
            boolean last = column == left + wide - 1 || line == top + high - 1;
            boolean even = (column + line) % 2 == 0;
            switch (asKind) {
                case FRAME:
                    return first || last;
                case GLASS:
                    return even;
                case HOOK:
                    return first;
                case MIST:
                    return even && !first && !last;
                default:
                    return true;
            }
        }

        boolean hasCell(int c) {
            return ((c < HALF ? upperHalf >>> c : lowerHalf >>> (c - HALF)) & 1L) != 0;
        }

        int covered() {
            return Long.bitCount(upperHalf) + Long.bitCount(lowerHalf);
        }

        int coveredAs(int asKind) {
            int many = 0;
            for (int line = top; line < top + high; line++) {
                for (int column = left; column < left + wide; column++) {
                    many += reaches(asKind, column, line) ? 1 : 0;
                }
            }
            return many;
        }

        int cellsShared(Pane other) {
            return Long.bitCount(upperHalf & other.upperHalf) + Long.bitCount(lowerHalf & other.lowerHalf);
        }
    }

    /** PANES, each with its place in THE ORDER, and what is SEEN of them. */
    private static final class Screen {
        final Pane[] panes = new Pane[MOST_PANES];
        int size = 0;

        Screen() {
            for (int i = 0; i < MOST_PANES; i++) {
                panes[i] = new Pane();
            }
        }

        boolean has(int i) {
            return i >= 0 && i < size;
        }

        void become(Screen other) {
            size = other.size;
            for (int i = 0; i < size; i++) {
                panes[i].become(other.panes[i]);
            }
        }

        /** A PANE comes to a place of THE ORDER; those between close up. */
        void placeAt(int i, int to) {
            int from = panes[i].place;
            for (int j = 0; j < size; j++) {
                int place = panes[j].place;
                if (from < place && place <= to) {
                    panes[j].place = place - 1;
                } else if (to <= place && place < from) {
                    panes[j].place = place + 1;
                }
            }
            panes[i].place = to;
        }

        /** Who is after a PANE in THE ORDER. */
        int after(int i) {
            int set = 0;
            for (int j = 0; j < size; j++) {
                if (panes[j].place > panes[i].place) {
                    set |= 1 << j;
                }
            }
            return set;
        }

        int notTopAfter(int i) {
            int many = 0;
            for (int j = 0; j < size; j++) {
                many += panes[j].place > panes[i].place && panes[j].kind != TOP ? 1 : 0;
            }
            return many;
        }

        int shownNow(int i) {
            return shown(i, after(i));
        }

        /** Of how many CELLS a PANE is SEEN, if those of a set are after it in THE ORDER. */
        int shown(int i, int afterI) {
            if (!panes[i].open) {
                return 0;
            }
            long upperHalf = panes[i].upperHalf;
            long lowerHalf = panes[i].lowerHalf;
            for (int j = 0; j < size; j++) {
                if (panes[j].open && wouldBeOver(j, i, afterI)) {
                    upperHalf &= ~panes[j].upperHalf;
                    lowerHalf &= ~panes[j].lowerHalf;
                }
            }
            return Long.bitCount(upperHalf) + Long.bitCount(lowerHalf);
        }

        private boolean wouldBeOver(int j, int i, int afterI) {
            boolean topJ = panes[j].kind == TOP;
            boolean topI = panes[i].kind == TOP;
            return topJ == topI ? (afterI >> j & 1) != 0 : topJ;
        }

        int whoAt(int c) {
            int who = NOBODY;
            int highest = -1;
            for (int i = 0; i < size; i++) {
                Pane p = panes[i];
                if (p.open && p.rank() > highest && p.hasCell(c)) {
                    who = i;
                    highest = p.rank();
                }
            }
            return who;
        }

        int howManyCover(int c) {
            int many = 0;
            for (int i = 0; i < size; i++) {
                many += panes[i].open && panes[i].hasCell(c) ? 1 : 0;
            }
            return many;
        }

        /** How many OPEN ones over a PANE COVER a CELL. */
        int howManyOver(int i, int c) {
            int rank = panes[i].rank();
            int many = 0;
            for (int j = 0; j < size; j++) {
                many += panes[j].open && panes[j].rank() > rank && panes[j].hasCell(c) ? 1 : 0;
            }
            return many;
        }

        /** Who, OPEN, hides a CELL of a PANE at least. */
        int inTheWayOf(int i) {
            Pane p = panes[i];
            int set = 0;
            for (int j = 0; j < size; j++) {
                if (panes[j].open && panes[j].rank() > p.rank() && p.cellsShared(panes[j]) > 0) {
                    set |= 1 << j;
                }
            }
            return set;
        }

        int unseenOpenOnes() {
            int set = 0;
            for (int i = 0; i < size; i++) {
                if (panes[i].open && shownNow(i) == 0) {
                    set |= 1 << i;
                }
            }
            return set;
        }

        int howManySeen() {
            return howManyOpen() - Integer.bitCount(unseenOpenOnes());
        }

        int shutOnes() {
            int set = 0;
            for (int i = 0; i < size; i++) {
                if (!panes[i].open) {
                    set |= 1 << i;
                }
            }
            return set;
        }

        int howManyOpen() {
            return size - Integer.bitCount(shutOnes());
        }

        int howManyAre(int kind) {
            int many = 0;
            for (int i = 0; i < size; i++) {
                many += isOf(panes[i].kind, kind) ? 1 : 0;
            }
            return many;
        }

        int cellsThatShowOne() {
            long upperHalf = 0;
            long lowerHalf = 0;
            for (int i = 0; i < size; i++) {
                if (panes[i].open) {
                    upperHalf |= panes[i].upperHalf;
                    lowerHalf |= panes[i].lowerHalf;
                }
            }
            return Long.bitCount(upperHalf) + Long.bitCount(lowerHalf);
        }

        /** Whether at the CELLS of a ROW of pairs those are SEEN that it tells. */
        boolean agreesWith(Row sights) {
            for (int k = 0; k + 1 < sights.size; k += 2) {
                if (whoAt(sights.ints[k]) != sights.ints[k + 1]) {
                    return false;
                }
            }
            return true;
        }
    }

    /** The DEEDS, each with what it takes to undo it. */
    private static final class Deeds {
        final int[] what = new int[MOST_DEEDS];
        final int[] who = new int[MOST_DEEDS];
        final int[] first = new int[MOST_DEEDS];
        final int[] second = new int[MOST_DEEDS];
        int size = 0;

        boolean hasRoomFor(int n) {
            return size + n <= MOST_DEEDS;
        }

        void note(int newWhat, int newWho, int newFirst, int newSecond) {
            if (hasRoomFor(1)) {
                what[size] = newWhat;
                who[size] = newWho;
                first[size] = newFirst;
                second[size] = newSecond;
                size++;
            }
        }

        void takeBackLast(Screen screen) {
            if (size <= 0) {
                return;
            }
            size--;
            int i = who[size];
            Pane p = screen.panes[i];
            switch (what[size]) {
                case REORDERED:
                    screen.placeAt(i, first[size]);
                    break;
                case MOVED:
                    p.lieAt(p.left - first[size], p.top - second[size]);
                    break;
                case TURNED:
                    p.open = !p.open;
                    break;
                default:
                    break;
            }
        }

        void become(Deeds other) {
            size = other.size;
            for (int k = 0; k < size; k++) {
                what[k] = other.what[k];
                who[k] = other.who[k];
                first[k] = other.first[k];
                second[k] = other.second[k];
            }
        }
    }

    /**
     * THE ORDER by which most PANES are SEEN. Whether one is SEEN hangs on the set of those after
     * it alone, so the most for a set, after all others, comes from those for lesser sets.
     */
    private static final class BestOrder {
        private final int[] most = new int[1 << MOST_PANES];
        private final int[] lowest = new int[1 << MOST_PANES];

        /** Answers how many are SEEN then. */
        int findInto(int[] into, Screen screen) {
            int all = (1 << screen.size) - 1;
            for (int set = 1; set <= all; set++) {
                findFor(screen, set);
            }
            int rest = all;
            for (int k = 0; k < screen.size; k++) {
                into[k] = lowest[rest];
                rest &= ~(1 << into[k]);
            }
            return most[all];
        }

        private void findFor(Screen screen, int set) {
            most[set] = -1;
            for (int i = 0; i < screen.size; i++) {
                if ((set >> i & 1) != 0) {
                    int rest = set & ~(1 << i);
                    int seen = most[rest] + (screen.shown(i, rest) > 0 ? 1 : 0);
                    if (seen > most[set]) {
                        most[set] = seen;
                        lowest[set] = i;
                    }
                }
            }
        }
    }

    /**
     * Two who RAISE PANES by turns. Who is RAISED comes after PANE i, and how those after it lie
     * among one another is nothing to it: the set of them is all that the turns change.
     */
    private static final class Turns {
        /** By that set: of how many CELLS PANE i is SEEN in the end. */
        private final int[] cells = new int[1 << MOST_PANES];

        int cellsInTheEnd(Screen screen, int i, int n) {
            int sets = 1 << screen.size;
            for (int set = 0; set < sets; set++) {
                cells[set] = screen.shown(i, set);
            }
            for (int turn = n - 1; turn >= 0; turn--) {
                int ifItself = cells[0];
                // Another one RAISED makes the set no lesser number: what follows is not yet changed.
                for (int set = 0; set < sets; set++) {
                    cells[set] = afterTurn(screen.size, i, set, turn % 2 == 0, ifItself);
                }
            }
            return cells[screen.after(i)];
        }

        private int afterTurn(int size, int i, int set, boolean wantsMuch, int ifItself) {
            int best = ifItself;
            for (int j = 0; j < size; j++) {
                if (j != i) {
                    int then = cells[set | 1 << j];
                    best = wantsMuch ? Math.max(best, then) : Math.min(best, then);
                }
            }
            return best;
        }
    }
}
