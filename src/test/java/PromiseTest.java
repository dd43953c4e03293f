/** Each promise of the document: ordinary inputs, the edges that it names, wrong inputs. */
public final class PromiseTest {
    private static final int BAD = -1, FULL = -2, FINDING = -3, STATE = -4, NONE = -9;
    private static final int NOTHING = 1, BEYOND = 2, UNLIKE = 3, NOUGHT = 4, SIZE = 5;
    private static final int LEAST = Integer.MIN_VALUE, MOST = Integer.MAX_VALUE;
    private static final Checks CHECKS = new Checks("PromiseTest");
    private static String promise = "";

    public static void main(String[] args) {
        newObject();
        row();
        lay();
        at();
        tear();
        copy();
        mean();
        text();
        put();
        fault();
        screen();
        pane();
        mark();
        covers();
        raise();
        sink();
        move();
        shut();
        undo();
        keep();
        on();
        seen();
        buried();
        both();
        free();
        shift();
        order();
        kinds();
        places();
        test();
        duel();
        odds();
        mid();
        lots();
        asked();
        upperAndLower();
        count();
        finding();
        digest();
        CHECKS.end();
    }

    // ---- what the tests are made of

    private static void due(String what, long got, long want) {
        CHECKS.due(promise + ": " + what, got, want);
    }

    /** A call that was refused by a FINDING, which finding() and findings() are to tell. */
    private static void found(PaneOrder x, String what, int before, long got, int finding) {
        due(what, got, FINDING);
        due(what + ", finding()", x.finding(), finding);
        due(what + ", findings()", x.findings(finding), before + 1);
    }

    /** A call that is to tell by asked(). */
    private static void told(PaneOrder x, String what, long got, long want, long asked) {
        due(what, got, want);
        due(what + ", asked()", x.asked(), asked);
    }

    private static void write(PaneOrder x, int t, String s) {
        due("text", x.text(t, s.length()), s.length());
        for (int i = 0; i < s.length(); i++) {
            x.put(t, i, s.charAt(i));
        }
    }

    private static PaneOrder on(String panes) {
        PaneOrder x = new PaneOrder();
        write(x, 0, panes);
        due("screen of " + panes, x.screen(0), panes.replaceAll("[^a-z]", "").length());
        return x;
    }

    private static void fill(PaneOrder x, int r, int... ints) {
        x.row(r, ints.length);
        for (int i = 0; i < ints.length; i++) {
            x.lay(r, i, ints[i]);
        }
    }

    private static void rowIs(PaneOrder x, int r, int... ints) {
        for (int i = 0; i < ints.length; i++) {
            told(x, "at(" + r + ", " + i + ")", x.at(r, i), 1, ints[i]);
        }
        due("at() behind the row", x.at(r, ints.length), FINDING);
        due("finding()", x.finding(), BEYOND);
    }

    /** THE ORDER from the lowest on, by a figure each. */
    private static void orderIs(PaneOrder x, String figures) {
        for (int k = 0; k < figures.length(); k++) {
            int i = figures.charAt(k) - '0';
            told(x, "place of " + i + " in " + figures, x.pane(i, 5), 1, k);
        }
    }

    private static int tell(PaneOrder x, int i, int what) {
        due("pane(" + i + ", " + what + ")", x.pane(i, what), 1);
        return x.asked();
    }

    /** 40 DEEDS, after which all is as it was but for them. */
    private static void spendDeeds(PaneOrder x) {
        for (int k = 0; k < 20; k++) {
            x.shut(0);
            x.shut(0);
        }
        due("DEEDS", x.count(2), 40);
    }

    // ---- 1 rows, texts, screens

    private static void newObject() {
        promise = "1";
        PaneOrder x = new PaneOrder();
        for (int what = 0; what <= 10; what++) {
            due("count(" + what + ")", x.count(what), 0);
        }
        due("at", x.at(0, 0), FINDING);
        due("fault", x.fault(0), FINDING);
        due("on", x.on(0), FINDING);
        due("findings(1)", x.findings(NOTHING), 3);
        due("pane", x.pane(0, 0), BAD);
        due("seen", x.seen(0), NONE);
        due("undo", x.undo(0), 0);
        PaneOrder y = on("p0011p0011");
        y.row(0, 3);
        due("one object is none of another one's", x.count(0) + x.count(6) + x.count(7), 0);
    }

    private static void row() {
        promise = "2";
        PaneOrder x = new PaneOrder();
        due("row(0, 0)", x.row(0, 0), 0);
        due("row(5, 40)", x.row(5, 40), 40);
        due("ROWS", x.count(6), 2);
        told(x, "at(5, 39)", x.at(5, 39), 1, 0);
        rowIs(x, 0);
        fill(x, 1, 7, 8, 9);
        for (int r : new int[] {-1, 6, LEAST, MOST}) {
            due("row(" + r + ", 2)", x.row(r, 2), BAD);
            due("row(" + r + ", -1)", x.row(r, -1), BAD);
        }
        due("row(1, 41)", x.row(1, 41), BAD);
        due("row(1, MOST)", x.row(1, MOST), BAD);
        found(x, "row(1, -1)", 0, x.row(1, -1), SIZE);
        found(x, "row(1, LEAST)", 1, x.row(1, LEAST), SIZE);
        rowIs(x, 1, 7, 8, 9);
        due("row anew", x.row(1, 2), 2);
        rowIs(x, 1, 0, 0);
        x.row(1, 3);
        rowIs(x, 1, 0, 0, 0);
    }

    private static void lay() {
        promise = "3";
        PaneOrder x = new PaneOrder();
        found(x, "lay of none", 0, x.lay(2, 0, 1), NOTHING);
        x.row(2, 2);
        told(x, "lay(2, 1, MOST)", x.lay(2, 1, MOST), 1, 0);
        told(x, "lay(2, 1, LEAST)", x.lay(2, 1, LEAST), 1, MOST);
        told(x, "lay(2, 1, 5)", x.lay(2, 1, 5), 1, LEAST);
        due("lay(-1, ..)", x.lay(-1, 0, 1), BAD);
        due("lay(6, ..)", x.lay(6, 0, 1), BAD);
        found(x, "lay(2, 2, ..)", 0, x.lay(2, 2, 1), BEYOND);
        found(x, "lay(2, -1, ..)", 1, x.lay(2, -1, 1), BEYOND);
        found(x, "lay(2, MOST, ..)", 2, x.lay(2, MOST, 1), BEYOND);
        due("asked() as before", x.asked(), LEAST);
        rowIs(x, 2, 0, 5);
    }

    private static void at() {
        promise = "4";
        PaneOrder x = new PaneOrder();
        found(x, "at of none", 0, x.at(5, 0), NOTHING);
        fill(x, 5, 4, -9);
        told(x, "at(5, 0)", x.at(5, 0), 1, 4);
        told(x, "at(5, 1)", x.at(5, 1), 1, -9);
        due("at(6, 0)", x.at(6, 0), BAD);
        due("at(LEAST, 0)", x.at(LEAST, 0), BAD);
        found(x, "at(5, 2)", 0, x.at(5, 2), BEYOND);
        found(x, "at(5, -1)", 1, x.at(5, -1), BEYOND);
        found(x, "at(5, LEAST)", 2, x.at(5, LEAST), BEYOND);
        due("asked() as before", x.asked(), -9);
    }

    private static void tear() {
        promise = "5";
        PaneOrder x = new PaneOrder();
        found(x, "tear of none", 0, x.tear(0), NOTHING);
        x.row(0, 0);
        x.row(1, 3);
        due("tear(0)", x.tear(0), 1);
        due("ROWS", x.count(6), 1);
        found(x, "tear again", 1, x.tear(0), NOTHING);
        found(x, "at what is torn", 2, x.at(0, 0), NOTHING);
        due("tear(-1)", x.tear(-1), BAD);
        due("tear(6)", x.tear(6), BAD);
        rowIs(x, 1, 0, 0, 0);
    }

    private static void copy() {
        promise = "6";
        PaneOrder x = new PaneOrder();
        fill(x, 0, 1, 2, 3, 4);
        fill(x, 1, 5, 6, 7);
        due("to another", x.copy(0, 1, 1, 0, 2), 1);
        rowIs(x, 1, 2, 3, 7);
        rowIs(x, 0, 1, 2, 3, 4);
        due("to itself, on", x.copy(0, 0, 0, 1, 3), 1);
        rowIs(x, 0, 1, 1, 2, 3);
        due("to itself, back", x.copy(0, 1, 0, 0, 3), 1);
        rowIs(x, 0, 1, 2, 3, 3);
        due("none, from the end", x.copy(0, 4, 1, 3, 0), 1);
        due("all", x.copy(1, 0, 0, 1, 3), 1);
        rowIs(x, 0, 1, 2, 3, 7);
        due("from no row", x.copy(-1, 0, 0, 0, -1), BAD);
        due("to no row", x.copy(0, 0, 6, 0, 1), BAD);
        found(x, "fewer than none", 0, x.copy(2, 0, 0, 0, -1), SIZE);
        found(x, "from a missing one", 0, x.copy(2, 9, 0, 0, 1), NOTHING);
        found(x, "to a missing one", 1, x.copy(0, 9, 2, 0, 1), NOTHING);
        int before = x.findings(BEYOND);
        found(x, "from beyond", before, x.copy(0, 2, 1, 0, 3), BEYOND);
        found(x, "to beyond", before + 1, x.copy(0, 0, 1, 1, 3), BEYOND);
        found(x, "from -1", before + 2, x.copy(0, -1, 1, 0, 1), BEYOND);
        found(x, "to -1", before + 3, x.copy(0, 0, 1, -1, 1), BEYOND);
        found(x, "none from beyond", before + 4, x.copy(0, 5, 1, 0, 0), BEYOND);
        found(x, "more than an int holds", before + 5, x.copy(0, 2, 1, 2, MOST), BEYOND);
        found(x, "from MOST", before + 6, x.copy(0, MOST, 1, 0, 1), BEYOND);
        rowIs(x, 0, 1, 2, 3, 7);
        rowIs(x, 1, 2, 3, 7);
    }

    private static void mean() {
        promise = "7";
        PaneOrder x = new PaneOrder();
        found(x, "mean of a missing one", 0, x.mean(0), NOTHING);
        x.row(0, 0);
        found(x, "mean of none", 0, x.mean(0), NOUGHT);
        due("mean(6)", x.mean(6), BAD);
        due("mean(-1)", x.mean(-1), BAD);
        fill(x, 0, 3, 4, 4);
        told(x, "mean", x.mean(0), 1, 3);
        fill(x, 0, -3, -4, -4);
        told(x, "mean below 0, cut", x.mean(0), 1, -3);
        fill(x, 0, MOST, MOST, MOST);
        told(x, "mean of the greatest", x.mean(0), 1, MOST);
        fill(x, 0, LEAST, LEAST);
        told(x, "mean of the least", x.mean(0), 1, LEAST);
        x.row(0, 40);
        x.lay(0, 0, 40);
        x.lay(0, 39, 40);
        told(x, "mean of 40", x.mean(0), 1, 2);
    }

    private static void text() {
        promise = "8";
        PaneOrder x = new PaneOrder();
        due("text(0, 0)", x.text(0, 0), 0);
        due("text(3, 60)", x.text(3, 60), 60);
        due("TEXTS", x.count(7), 2);
        due("a blank", x.put(3, 59, 65), 1032);
        due("text(3, 61)", x.text(3, 61), BAD);
        due("text(4, -1)", x.text(4, -1), BAD);
        due("text(-1, 1)", x.text(-1, 1), BAD);
        found(x, "text(3, -1)", 0, x.text(3, -1), SIZE);
        due("as it was", x.put(3, 59, 66), 1065);
        x.text(3, 60);
        due("anew", x.put(3, 59, 65), 1032);
    }

    private static void put() {
        promise = "9";
        PaneOrder x = new PaneOrder();
        found(x, "put to none", 0, x.put(1, 0, 1), NOTHING);
        x.text(1, 2);
        due("put 300", x.put(1, 0, 300), 1032);
        due("put 200", x.put(1, 0, 200), 1044);
        due("put 127", x.put(1, 0, 127), 944);
        due("put 128", x.put(1, 0, 128), 1127);
        due("put LEAST", x.put(1, 0, LEAST), 872);
        due("put 0", x.put(1, 0, 0), 1000);
        due("the other place", x.put(1, 1, 0), 1032);
        due("put(4, ..)", x.put(4, 0, 0), BAD);
        due("put(-1, ..)", x.put(-1, 0, 0), BAD);
        found(x, "put(1, 2, ..)", 0, x.put(1, 2, 0), BEYOND);
        found(x, "put(1, -1, ..)", 1, x.put(1, -1, 0), BEYOND);
        due("asked() is not for put()", x.asked(), 0);
    }

    private static void faultIs(String s, int want) {
        PaneOrder x = new PaneOrder();
        write(x, 3, s);
        due("fault of '" + s + "'", x.fault(3), want);
        due("screen of '" + s + "'", x.screen(3) == STATE ? 1 : 0, want == NONE ? 0 : 1);
    }

    private static void fault() {
        promise = "10";
        String seven = "p0011f0011g0011t0011h0011m0011p0011";
        String[] good = {"p0011p0011", "  p0011   f9731  ", "p3091m0011", "p0018h0011", "g0117t0011", "p9031p0711",
            seven, seven + "   ", "p0791p0011"};
        for (String s : good) {
            faultIs(s, NONE);
        }
        faultIs("", 0);
        faultIs("   ", 3);
        faultIs("p0011", 5);
        faultIs(" p0011  ", 8);
        faultIs("q0011p0011", 0);
        faultIs("P0011p0011", 0);
        faultIs("00011p0011", 0);
        faultIs("p0011x0011", 5);
        faultIs("p00110p0011", 5);
        faultIs("p0011 p001", 10);
        faultIs("p0011p", 6);
        faultIs("p 0011p0011", 1);
        faultIs("pp0011p0011", 1);
        faultIs("p0 11p0011", 2);
        faultIs("p0811p0011", 2);
        faultIs("p0911p0011", 2);
        faultIs("p00 1p0011", 3);
        faultIs("p00:1p0011", 3);
        faultIs("p0001p0011", 3);
        faultIs("p4091p0011", 3);
        faultIs("p9041p0011", 3);
        faultIs("p001 p0011", 4);
        faultIs("p0010p0011", 4);
        faultIs("p0019p0011", 4);
        faultIs("p0118p0011", 4);
        faultIs("p0712p0011", 4);
        faultIs("p/011p0011", 1);
        faultIs("p:011p0011", 1);
        faultIs("p0011" + " ".repeat(52) + "p00", 60);
        faultIs("p0011" + " ".repeat(50) + "p0011", NONE);
        faultIs(" ".repeat(60), 60);
        faultIs(seven + "p0011", 35);
        faultIs(seven + "  x", 37);
        faultIs(seven + "  p", 37);
        PaneOrder x = new PaneOrder();
        found(x, "fault of none", 0, x.fault(0), NOTHING);
        due("fault(4)", x.fault(4), BAD);
        due("fault(-1)", x.fault(-1), BAD);
        x.text(0, 1);
        x.put(0, 0, -1);
        due("a byte below 0", x.fault(0), 0);
    }

    private static void screen() {
        promise = "11";
        PaneOrder x = on("p0022f4433");
        due("PANES", x.count(0), 2);
        x.raise(0);
        x.shut(1);
        for (int k = 0; k < 3; k++) {
            x.keep(k);
        }
        x.shift(0);
        write(x, 1, "g1122");
        long before = x.digest();
        due("a fault", x.screen(1), STATE);
        due("screen(4)", x.screen(4), BAD);
        due("screen(-1)", x.screen(-1), BAD);
        found(x, "screen of none", 0, x.screen(2), NOTHING);
        due("as it was", x.digest(), before);
        write(x, 1, "g1122t3344h5533");
        due("another one", x.screen(1), 3);
        due("no DEEDS", x.count(2), 0);
        due("no kept SCREENS", x.count(8), 0);
        for (int k = 0; k < 3; k++) {
            due("on()", x.on(k), FINDING);
        }
        due("all OPEN", x.count(1), 3);
        orderIs(x, "012");
        x.raise(0);
        x.shut(1);
        x.move(2, 1, 1);
        due("the same anew", x.screen(1), 3);
        due("LEFT anew", tell(x, 2, 1), 5);
        due("OPEN anew", x.count(1), 3);
        orderIs(x, "012");
        x.put(1, 0, 'x');
        due("the TEXT changed, the SCREEN not", tell(x, 0, 0), 2);
    }

    private static void pane() {
        promise = "12";
        PaneOrder x = on("p0133 f1142 h2314");
        int[][] want = {{0, 0, 1, 3, 3, 0, 1, 4}, {1, 1, 1, 4, 2, 1, 1, 8}, {4, 2, 3, 1, 4, 2, 1, 4}};
        for (int i = 0; i < 3; i++) {
            for (int what = 0; what <= 7; what++) {
                told(x, "pane(" + i + ", " + what + ")", x.pane(i, what), 1, want[i][what]);
            }
        }
        x.raise(0);
        due("place", tell(x, 0, 5), 2);
        due("SEEN", tell(x, 0, 7), 9);
        x.shut(0);
        due("OPEN", tell(x, 0, 6), 0);
        due("SEEN, SHUT", tell(x, 0, 7), 0);
        due("SEEN, the other SHUT", tell(x, 1, 7), 8);
        due("pane(3, 0)", x.pane(3, 0), BAD);
        due("pane(-1, 0)", x.pane(-1, 0), BAD);
        due("pane(0, 8)", x.pane(0, 8), BAD);
        due("pane(0, -1)", x.pane(0, -1), BAD);
        due("pane(MOST, LEAST)", x.pane(MOST, LEAST), BAD);
    }

    private static void mark() {
        promise = "13";
        PaneOrder x = on("f0043 h0043 g0033 t0011 m0055 p0011 t0011");
        due("FRAME", x.mark(0, 1), 2);
        due("HOOK as a FRAME", x.mark(1, 1), 6);
        due("HOOK", x.mark(1, 4), 4);
        due("GLASS", x.mark(2, 2), 4);
        due("MIST as GLASS", x.mark(4, 2), 20);
        due("MIST", x.mark(4, 5), 8);
        due("TOP", x.mark(3, 3), 2);
        due("TOP, the last", x.mark(6, 3), 0);
        x.sink(6);
        due("TOP, the first", x.mark(6, 3), 5);
        x.shut(5);
        due("TOP, one of those SHUT", x.mark(3, 3), 2);
        x.move(2, 1, 0);
        due("GLASS moved", x.mark(2, 2), 5);
        int times = 0;
        boolean[][] is = {{true, false, false, false, false}, {true, false, false, true, false},
            {false, true, false, false, false}, {false, false, true, false, false}, {false, true, false, false, true},
            {false, false, false, false, false}};
        for (int i = 0; i < 6; i++) {
            for (int kind = 1; kind <= 5; kind++) {
                if (!is[i][kind - 1]) {
                    found(x, "mark(" + i + ", " + kind + ")", times, x.mark(i, kind), UNLIKE);
                    times++;
                }
            }
        }
        due("KIND 0", x.mark(0, 0), BAD);
        due("KIND 6", x.mark(0, 6), BAD);
        due("KIND -1", x.mark(0, -1), BAD);
        due("PANE 7", x.mark(7, 1), BAD);
        due("PANE -1", x.mark(-1, 1), BAD);
    }

    /** What PANE 0 COVERS, from its box's first LINE on; nothing beside it. */
    private static void coversAll(String pane, String... lines) {
        PaneOrder x = on(pane + " p0011");
        int left = pane.charAt(1) - '0';
        int top = pane.charAt(2) - '0';
        for (int c = 0; c < 96; c++) {
            int column = c % 12 - left;
            int line = c / 12 - top;
            boolean within = line >= 0 && line < lines.length && column >= 0 && column < lines[0].length();
            int want = within && lines[line].charAt(column) == '#' ? 1 : 0;
            due("covers(0, " + c + ") of " + pane, x.covers(0, c), want);
        }
    }

    private static void covers() {
        promise = "14";
        coversAll("p3232", "###", "###");
        coversAll("t9531", "###");
        coversAll("f0043", "####", "#..#", "####");
        coversAll("f4522", "##", "##");
        coversAll("f2414", "#", "#", "#", "#");
        coversAll("g0042", "#.#.", ".#.#");
        coversAll("g1042", ".#.#", "#.#.");
        coversAll("h5343", "####", "#...", "#...");
        coversAll("h0041", "####");
        coversAll("m0055", ".....", ".#.#.", "..#..", ".#.#.", ".....");
        coversAll("m1055", ".....", "..#..", ".#.#.", "..#..", ".....");
        coversAll("m0028", "..");
        coversAll("p3393", "#########", "#########", "#########");
        coversAll("t0216", "#", "#", "#", "#", "#", "#");
        PaneOrder x = on("p0022 p0022");
        x.shut(0);
        due("SHUT", x.covers(0, 13), 1);
        x.move(0, 1, 1);
        due("moved away", x.covers(0, 0), 0);
        due("moved to", x.covers(0, 26), 1);
        due("covers(0, 96)", x.covers(0, 96), BAD);
        due("covers(0, -1)", x.covers(0, -1), BAD);
        due("covers(2, 0)", x.covers(2, 0), BAD);
        due("covers(-1, 0)", x.covers(-1, 0), BAD);
    }

    // ---- 2 deeds

    private static void raise() {
        promise = "15";
        PaneOrder x = on("p0011 t0011 p0011 p0011");
        due("raise(0)", x.raise(0), 0);
        orderIs(x, "1230");
        due("raise(2)", x.raise(2), 1);
        orderIs(x, "1302");
        due("the last", x.raise(2), STATE);
        due("a TOP one", x.raise(1), 0);
        orderIs(x, "3021");
        due("DEEDS", x.count(2), 3);
        due("raise(4)", x.raise(4), BAD);
        due("raise(-1)", x.raise(-1), BAD);
        x.undo(0);
        spendDeeds(x);
        due("full", x.raise(0), FULL);
        due("full, the last", x.raise(3), STATE);
        x.undo(39);
        due("the 40th", x.raise(1), 1);
        x.undo(39);
        x.shut(0);
        due("full, none", x.raise(4), BAD);
        orderIs(x, "0123");
    }

    private static void sink() {
        promise = "16";
        PaneOrder x = on("p0011 t0011 p0011 p0011");
        due("sink(3)", x.sink(3), 3);
        orderIs(x, "3012");
        due("sink(1)", x.sink(1), 2);
        orderIs(x, "1302");
        due("the first", x.sink(1), STATE);
        due("DEEDS", x.count(2), 2);
        due("sink(4)", x.sink(4), BAD);
        due("sink(-1)", x.sink(-1), BAD);
        x.undo(0);
        spendDeeds(x);
        due("full", x.sink(3), FULL);
        due("full, the first", x.sink(0), STATE);
        due("full, none", x.sink(-1), BAD);
        orderIs(x, "0123");
    }

    private static void move() {
        promise = "17";
        PaneOrder x = on("p4333 g9731");
        due("right, down", x.move(0, 3, 2), 5 * 12 + 7);
        due("left, up", x.move(0, -3, -3), 2 * 12 + 4);
        due("down alone", x.move(0, 0, 3), 5 * 12 + 4);
        due("right alone", x.move(0, 3, 0), 5 * 12 + 7);
        due("LEFT", tell(x, 0, 1), 7);
        due("TOP", tell(x, 0, 2), 5);
        due("to the end", x.move(0, 2, 0), 5 * 12 + 9);
        due("over the right end", x.move(0, 1, 0), STATE);
        due("below the end", x.move(0, 0, 1), STATE);
        due("GLASS over the right end", x.move(1, 1, 0), STATE);
        PaneOrder y = on("p0011 p9111");
        due("over the left end", y.move(0, -1, 0), STATE);
        due("above the end", y.move(0, 1, -1), STATE);
        due("beyond COLUMN 9", y.move(1, 2, 0), 23);
        due("none of both", x.move(0, 0, 0), BAD);
        due("4 COLUMNS", x.move(0, 4, 0), BAD);
        due("-4 COLUMNS", x.move(0, -4, 0), BAD);
        due("4 LINES", x.move(0, 0, 4), BAD);
        due("-4 LINES", x.move(0, 0, -4), BAD);
        due("LEAST, MOST", x.move(0, LEAST, MOST), BAD);
        due("move(2, ..)", x.move(2, 1, 0), BAD);
        due("move(-1, ..)", x.move(-1, 1, 0), BAD);
        due("DEEDS", x.count(2), 5);
        x.undo(0);
        spendDeeds(x);
        due("full", x.move(0, 1, 0), FULL);
        due("full, over the end", x.move(1, 1, 0), STATE);
        due("full, none of both", x.move(0, 0, 0), BAD);
        due("as it was", tell(x, 0, 1), 4);
        x.undo(39);
        x.move(1, 0, -1);
        due("a SHUT one is moved, too", x.undo(39), 1);
        x.undo(0);
        x.move(1, -1, 0);
        due("GLASS by the SCREEN's CELLS", x.covers(1, 7 * 12 + 9), 1);
        due("GLASS by the SCREEN's CELLS", x.covers(1, 7 * 12 + 8), 0);
    }

    private static void shut() {
        promise = "18";
        PaneOrder x = on("p0011 p0011 p0011");
        due("shut", x.shut(1), 2);
        due("shut", x.shut(2), 1);
        due("bits", x.count(5), 6);
        due("open", x.shut(1), 2);
        due("bits", x.count(5), 4);
        due("DEEDS", x.count(2), 3);
        due("shut(3)", x.shut(3), BAD);
        due("shut(-1)", x.shut(-1), BAD);
        x.undo(0);
        spendDeeds(x);
        due("full", x.shut(0), FULL);
        due("full, none", x.shut(3), BAD);
        due("as it was", x.count(1), 3);
    }

    private static void undo() {
        promise = "19";
        PaneOrder x = on("p4433 t0022 g1144 h5223");
        long[] at = new long[9];
        at[0] = x.digest();
        x.raise(1);
        at[1] = x.digest();
        x.sink(3);
        at[2] = x.digest();
        x.move(0, -2, 1);
        due("beyond the end", x.move(0, 0, 3), STATE);
        x.move(0, 0, -3);
        at[4] = x.digest();
        x.shut(2);
        at[5] = x.digest();
        x.raise(0);
        x.lots(2, 77);
        due("DEEDS", x.count(2), 8);
        at[8] = x.digest();
        due("none", x.undo(8), 0);
        due("as it was", x.digest(), at[8]);
        due("undo(9)", x.undo(9), BAD);
        due("undo(-1)", x.undo(-1), BAD);
        due("undo(MOST)", x.undo(MOST), BAD);
        due("as it was", x.digest(), at[8]);
        due("three", x.undo(5), 3);
        due("as at 5", x.digest(), at[5]);
        due("one", x.undo(4), 1);
        due("as at 4", x.digest(), at[4]);
        due("two", x.undo(2), 2);
        due("as at 2", x.digest(), at[2]);
        due("one", x.undo(1), 1);
        due("as at 1", x.digest(), at[1]);
        due("one", x.undo(0), 1);
        due("as at 0", x.digest(), at[0]);
        due("none", x.undo(0), 0);
        due("none to undo", x.undo(1), BAD);
    }

    private static void keep() {
        promise = "20";
        PaneOrder x = new PaneOrder();
        due("no PANES", x.keep(0), STATE);
        due("keep(3) ahead of STATE", x.keep(3), BAD);
        x = on("p0022 p1122");
        due("keep", x.keep(0), 0);
        x.raise(0);
        x.shut(1);
        due("keep", x.keep(2), 2);
        due("keep(3)", x.keep(3), BAD);
        due("keep(-1)", x.keep(-1), BAD);
        due("kept", x.count(8), 2);
        x.undo(1);
        due("over another one", x.keep(0), 1);
        due("kept", x.count(8), 2);
        x.undo(0);
        due("as kept", x.on(0), 1);
        orderIs(x, "10");
    }

    private static void on() {
        promise = "21";
        PaneOrder x = on("p0022 p1122 g5533");
        found(x, "on of none", 0, x.on(1), NOTHING);
        x.raise(0);
        x.move(1, 2, 0);
        x.keep(1);
        long kept = x.digest();
        x.shut(2);
        x.undo(1);
        x.sink(2);
        x.move(1, 0, 3);
        due("on", x.on(1), 2);
        due("as it was", x.digest(), kept);
        due("DEEDS", x.count(2), 2);
        x.move(1, 0, 3);
        x.sink(0);
        due("again", x.on(1), 2);
        due("LEFT", tell(x, 1, 1), 3);
        due("TOP", tell(x, 1, 2), 1);
        due("OPEN", x.count(1), 3);
        orderIs(x, "120");
        due("its DEEDS are undone", x.undo(0), 2);
        due("LEFT at first", tell(x, 1, 1), 1);
        orderIs(x, "012");
        x.on(1);
        due("on(3)", x.on(3), BAD);
        due("on(-1)", x.on(-1), BAD);
        found(x, "on of none", 1, x.on(0), NOTHING);
        due("as it was", x.digest(), kept);
        deedsAreKept();
    }

    /** Other DEEDS by the same numbers come between. */
    private static void deedsAreKept() {
        PaneOrder x = on("p4433 p1122 g5533");
        int[] first = {tell(x, 0, 1), tell(x, 0, 2), tell(x, 1, 1), tell(x, 1, 2)};
        x.move(0, 1, -3);
        x.raise(1);
        x.move(1, -1, 2);
        x.shut(2);
        x.keep(0);
        x.undo(0);
        x.shut(1);
        x.move(2, 1, -2);
        x.shut(0);
        x.move(2, 1, -1);
        due("on", x.on(0), 4);
        due("undone", x.undo(0), 4);
        due("LEFT of 0", tell(x, 0, 1), first[0]);
        due("TOP of 0", tell(x, 0, 2), first[1]);
        due("LEFT of 1", tell(x, 1, 1), first[2]);
        due("TOP of 1", tell(x, 1, 2), first[3]);
        due("OPEN", x.count(1), 3);
        orderIs(x, "012");
    }

    // ---- 3 what is seen

    private static void seen() {
        promise = "22";
        PaneOrder x = on("t0044 p0044 f0044 g0044 p9131");
        told(x, "TOP", x.seen(0), 0, 4);
        told(x, "within the FRAME, not even", x.seen(14), 0, 2);
        x.shut(0);
        told(x, "GLASS", x.seen(0), 3, 3);
        told(x, "FRAME", x.seen(1), 2, 2);
        told(x, "through both", x.seen(14), 1, 1);
        due("nobody", x.seen(95), NONE);
        due("asked() as before", x.asked(), 1);
        told(x, "the right end", x.seen(23), 4, 1);
        x.sink(3);
        told(x, "by THE ORDER", x.seen(0), 2, 3);
        x.shut(0);
        PaneOrder y = on("t0011 t0011 p0011");
        told(y, "TOP ones by THE ORDER", y.seen(0), 1, 3);
        y.raise(0);
        told(y, "TOP ones by THE ORDER", y.seen(0), 0, 3);
        due("seen(96)", x.seen(96), BAD);
        due("seen(-1)", x.seen(-1), BAD);
    }

    private static void buried() {
        promise = "23";
        PaneOrder none = new PaneOrder();
        told(none, "no PANES", none.buried(), 0, 96);
        PaneOrder x = on("p1122 p2111 p0044 m9711 f9022");
        told(x, "three", x.buried(), 1 | 2 | 8, 76);
        x.shut(1);
        told(x, "SHUT ones are none", x.buried(), 1 | 8, 76);
        x.shut(2);
        told(x, "none over it", x.buried(), 8, 88);
    }

    private static void both() {
        promise = "24";
        PaneOrder x = on("p0044 f2244 g0044 t0011 t9711");
        told(x, "PANE, FRAME", x.both(0, 1), 3, 1);
        told(x, "the other way", x.both(1, 0), 3, 1);
        told(x, "PANE, GLASS", x.both(0, 2), 8, 2);
        told(x, "FRAME, GLASS", x.both(1, 2), 1, 2);
        told(x, "TOP", x.both(3, 0), 1, 3);
        told(x, "TOP ones, apart", x.both(3, 4), 0, 4);
        x.raise(3);
        told(x, "TOP ones by THE ORDER", x.both(4, 3), 0, 3);
        x.raise(0);
        told(x, "TOP counts as over", x.both(0, 3), 1, 3);
        told(x, "by THE ORDER", x.both(0, 2), 8, 0);
        x.shut(0);
        x.shut(2);
        told(x, "SHUT", x.both(0, 2), 8, 0);
        due("alike", x.both(1, 1), BAD);
        due("both(0, 5)", x.both(0, 5), BAD);
        due("both(5, 0)", x.both(5, 0), BAD);
        due("both(-1, 0)", x.both(-1, 0), BAD);
        due("both(0, -1)", x.both(0, -1), BAD);
    }

    // ---- 4 what to do (aside)

    private static void free() {
        promise = "25";
        PaneOrder x = on("p0022 p1111 f0044 p5511 t0011 m0033 g0011");
        told(x, "all over it that COVER", x.free(0), 2 | 4 | 16 | 32 | 64, 5);
        told(x, "those over it alone", x.free(1), 32, 1);
        told(x, "none", x.free(3), 0, 0);
        told(x, "TOP", x.free(4), 0, 0);
        told(x, "under TOP", x.free(6), 16, 1);
        x.shut(5);
        x.shut(2);
        told(x, "SHUT ones are none of them", x.free(0), 2 | 16 | 64, 3);
        x.raise(0);
        told(x, "by THE ORDER", x.free(1), 1, 1);
        due("SHUT", x.free(5), STATE);
        due("free(7)", x.free(7), BAD);
        due("free(-1)", x.free(-1), BAD);
        due("aside", x.count(5), 4 | 32);
        PaneOrder y = on("m0022 p0022");
        told(y, "one that COVERS none", y.free(0), 0, 0);
    }

    private static void shift() {
        promise = "26";
        PaneOrder x = on("p0022 p0044");
        told(x, "away from under", x.shift(0), 66, 3);
        told(x, "of several the first", x.shift(1), 33, 16);
        due("aside", tell(x, 0, 1), 0);
        due("no DEED", x.count(2), 0);
        x = on("p4411 p9711");
        told(x, "the first of all", x.shift(0), 0, 1);
        told(x, "at the end", x.shift(1), 0, 1);
        x = on("p1111 g0055");
        told(x, "COLUMNS, then LINES", x.shift(0), 23, 1);
        x = on("p0092 t0093 g0033");
        told(x, "by LINES", x.shift(0), 36, 18);
        told(x, "GLASS by CELLS", x.shift(2), 46, 5);
        x.shut(1);
        told(x, "SHUT ones hide nothing", x.shift(0), 36, 18);
        due("SHUT", x.shift(1), STATE);
        due("shift(3)", x.shift(3), BAD);
        due("shift(-1)", x.shift(-1), BAD);
        x = on("p0098 p9711");
        told(x, "0, 0, too", x.shift(0), 33, 72);
        x = on("p0098 g0011");
        told(x, "along the SCREEN", x.shift(0), 43, 72);
    }

    private static void order() {
        promise = "27";
        PaneOrder none = new PaneOrder();
        due("no PANES", none.order(0), STATE);
        due("order(6) ahead of STATE", none.order(6), BAD);
        due("no ROW by it", none.count(6), 0);
        PaneOrder x = on("p0022 p0011 p0022");
        x.row(4, 9);
        due("two are SEEN", x.order(4), 2);
        rowIs(x, 4, 0, 2, 1);
        orderIs(x, "012");
        due("no DEED", x.count(2), 0);
        x.shut(2);
        due("one is SHUT", x.order(3), 2);
        rowIs(x, 3, 0, 1, 2);
        due("order(6)", x.order(6), BAD);
        due("order(-1)", x.order(-1), BAD);
        x = on("t0022 p0011 p5511");
        due("under TOP", x.order(0), 2);
        rowIs(x, 0, 0, 1, 2);
        x = on("p0011 p0021 p0031 p0041 p0051 p0061 p0071");
        due("seven", x.order(0), 7);
        rowIs(x, 0, 6, 5, 4, 3, 2, 1, 0);
        x = on("t0011 p0021 t0031 p0041 p0051");
        due("TOP ones among one another", x.order(0), 4);
        rowIs(x, 0, 1, 2, 0, 4, 3);
    }

    // ---- 5 which pane it is

    private static void kinds() {
        promise = "28";
        PaneOrder x = on("p0055 p9711");
        x.row(0, 0);
        due("nothing was SEEN", x.kinds(0, 0), 63);
        fill(x, 0, 0, 0);
        due("at the corner", x.kinds(0, 0), 31);
        fill(x, 0, 13, -1);
        due("nobody within", x.kinds(0, 0), 2 | 16);
        fill(x, 0, 13, -1, 16, 0);
        due("at the right side", x.kinds(0, 0), 2);
        fill(x, 0, 0, -1, 13, 0);
        due("mist", x.kinds(0, 0), 32);
        fill(x, 0, 1, -1, 0, 0);
        due("glass", x.kinds(0, 0), 4);
        fill(x, 0, 0, 1);
        due("none", x.kinds(0, 0), 0);
        fill(x, 0, 90, -1);
        due("elsewhere", x.kinds(0, 0), 63);
        x.row(0, 40);
        x.lay(0, 38, 13);
        x.lay(0, 39, -1);
        due("the last of 20 pairs", x.kinds(0, 0), 2 | 16);
        PaneOrder y = on("p0022 p0022 m0011");
        fill(y, 0, 0, 0);
        due("over the other one", y.kinds(0, 0), 8);
        y.shut(0);
        due("a SHUT one", y.kinds(0, 0), 0);
        fill(y, 0, 0, 1);
        due("a SHUT one", y.kinds(0, 0), 63);
        due("aside", tell(y, 0, 0), 0);
        due("kinds(3, 0)", y.kinds(3, 0), BAD);
        due("kinds(-1, 0)", y.kinds(-1, 0), BAD);
        due("kinds(0, 6)", y.kinds(0, 6), BAD);
        due("kinds(0, -1)", y.kinds(0, -1), BAD);
        wrongSights(y, "kinds");
    }

    private static int ask(PaneOrder x, String call, int i, int r) {
        return call.equals("kinds") ? x.kinds(i, r) : call.equals("places") ? x.places(i, r) : x.test(i, r);
    }

    /** On three PANES: the findings that kinds(), places(), test() share. */
    private static void wrongSights(PaneOrder x, String call) {
        found(x, call + " without a ROW", x.findings(NOTHING), ask(x, call, 0, 5), NOTHING);
        fill(x, 5, 96);
        found(x, call + " not by pairs, ahead of UNLIKE", x.findings(SIZE), ask(x, call, 0, 5), SIZE);
        int[][] wrong = {{96, 0}, {-1, 0}, {0, 3}, {0, -2}, {MOST, 0}, {0, LEAST}, {0, 0, 1, 1, 2, 3}, {0, 0, 100, 1}};
        for (int[] pairs : wrong) {
            fill(x, 5, pairs);
            found(x, call + " of none such", x.findings(UNLIKE), ask(x, call, 0, 5), UNLIKE);
        }
        x.tear(5);
    }

    private static void places() {
        promise = "29";
        PaneOrder x = on("p0022 p5511 t0111");
        x.row(0, 0);
        told(x, "anywhere", x.places(0, 0), 77, 0);
        fill(x, 0, 0, 0);
        told(x, "at the corner", x.places(0, 0), 1, 0);
        fill(x, 0, 26, 0);
        told(x, "at a CELL", x.places(0, 0), 4, 13);
        fill(x, 0, 95, 0);
        told(x, "at the end", x.places(0, 0), 1, 82);
        fill(x, 0, 65, 1);
        told(x, "under another one", x.places(0, 0), 77, 0);
        told(x, "that one itself", x.places(1, 0), 1, 65);
        fill(x, 0, 65, 0);
        x.pane(1, 1);
        due("NONE", x.places(0, 0), NONE);
        due("asked() as before", x.asked(), 5);
        fill(x, 0, 1, -1, 13, 0);
        told(x, "by two", x.places(0, 0), 2, 12);
        due("aside", tell(x, 0, 2), 0);
        PaneOrder y = on("g0033 p9711");
        fill(y, 0, 1, 0);
        due("GLASS by CELLS", y.places(0, 0), NONE);
        due("places(3, 0)", x.places(3, 0), BAD);
        due("places(-1, 0)", x.places(-1, 0), BAD);
        due("places(0, 6)", x.places(0, 6), BAD);
        due("places(0, -1)", x.places(0, -1), BAD);
        wrongSights(x, "places");
    }

    private static void test() {
        promise = "30";
        PaneOrder x = on("p0055 p9711 t9611");
        x.row(0, 0);
        told(x, "all KINDS", x.test(0, 0), 16, 3);
        fill(x, 0, 13, -1);
        told(x, "FRAME or HOOK", x.test(0, 0), 16, 1);
        PaneOrder y = on("p0011 p9711");
        y.row(0, 0);
        told(y, "the first CELL", y.test(0, 0), 0, 5);
        y = on("p1011 p9711");
        y.row(0, 0);
        told(y, "the second CELL", y.test(0, 0), 1, 4);
        y = on("p0011 p0011 p0011 p0011 p0011 p0011 p0011");
        y.row(0, 0);
        told(y, "over seven", y.test(6, 0), 0, 5);
        fill(x, 0, 0, -1);
        told(x, "one alone", x.test(0, 0), 0, 1);
        fill(x, 0, 1, 0, 14, 0);
        told(x, "never told apart", x.test(0, 0), 0, 2);
        fill(x, 0, 0, 1);
        x.pane(1, 1);
        due("NONE", x.test(0, 0), NONE);
        due("asked() as before", x.asked(), 9);
        due("aside", tell(x, 0, 0), 0);
        due("test(3, 0)", x.test(3, 0), BAD);
        due("test(-1, 0)", x.test(-1, 0), BAD);
        due("test(0, 6)", x.test(0, 6), BAD);
        due("test(0, -1)", x.test(0, -1), BAD);
        wrongSights(x, "test");
    }

    // ---- 6 by turns

    private static void duel() {
        promise = "31";
        PaneOrder x = on("p0022 p0022");
        int[] of0 = {0, 4, 0, 4, 0};
        int[] of1 = {4, 4, 0, 4, 0};
        for (int n = 0; n <= 4; n++) {
            due("duel(0, " + n + ")", x.duel(0, n), of0[n]);
            due("duel(1, " + n + "): the last one, too", x.duel(1, n), of1[n]);
        }
        orderIs(x, "01");
        due("no DEED", x.count(2), 0);
        PaneOrder y = on("p0041 p0011 p1021 t3011");
        int[] want = {0, 3, 1, 3, 1};
        for (int n = 0; n <= 4; n++) {
            due("two against it, one TOP: " + n, y.duel(0, n), want[n]);
        }
        for (int n = 0; n <= 4; n++) {
            due("TOP: " + n, y.duel(3, n), 1);
        }
        y.shut(2);
        due("a SHUT one does nothing to it", y.duel(0, 2), 2);
        y.shut(0);
        due("a SHUT one", y.duel(0, 3), 0);
        due("duel(0, 5)", y.duel(0, 5), BAD);
        due("duel(0, -1)", y.duel(0, -1), BAD);
        due("duel(4, 0)", y.duel(4, 0), BAD);
        due("duel(-1, 0)", y.duel(-1, 0), BAD);
    }

    // ---- 7 chances, lots

    private static void chance(PaneOrder x, String what, int got, long upper, long lower) {
        due(what, got, 1);
        due(what + ", upper()", x.upper(), upper);
        due(what + ", lower()", x.lower(), lower);
    }

    private static void odds() {
        promise = "32";
        PaneOrder x = on("p0022 p1111 p0011 p5511 t5511");
        chance(x, "half", x.odds(0, 6), 1, 4);
        chance(x, "nine", x.odds(0, 9), 9, 16);
        chance(x, "five", x.odds(0, 5), 25, 144);
        chance(x, "never", x.odds(0, 0), 0, 1);
        chance(x, "always", x.odds(0, 12), 1, 1);
        chance(x, "none over it", x.odds(2, 0), 1, 1);
        chance(x, "under TOP", x.odds(3, 1), 1, 12);
        due("odds(0, 13)", x.odds(0, 13), BAD);
        due("odds(0, -1)", x.odds(0, -1), BAD);
        due("odds(5, 1)", x.odds(5, 1), BAD);
        due("odds(-1, 1)", x.odds(-1, 1), BAD);
        x.shut(1);
        due("SHUT", x.odds(1, 6), STATE);
        due("SHUT, and 13", x.odds(1, 13), BAD);
        due("as it was", x.lower(), 12);
        chance(x, "one over it is SHUT", x.odds(0, 1), 1, 12);
        PaneOrder y = on("p0011 p0011 p0011 p0011 p0011 p0011 p0011");
        chance(y, "six over it", y.odds(0, 5), 15625, 2985984);
    }

    private static void mid() {
        promise = "33";
        PaneOrder x = on("p0022 p1111 p0011 p0011 t5511");
        chance(x, "half", x.mid(0, 6), 11, 4);
        chance(x, "five", x.mid(0, 5), 373, 144);
        chance(x, "never", x.mid(0, 0), 2, 1);
        chance(x, "always", x.mid(0, 12), 4, 1);
        chance(x, "the last", x.mid(3, 1), 1, 1);
        chance(x, "hidden", x.mid(2, 0), 0, 1);
        due("mid(0, 13)", x.mid(0, 13), BAD);
        due("mid(0, -1)", x.mid(0, -1), BAD);
        due("mid(5, 1)", x.mid(5, 1), BAD);
        due("mid(-1, 1)", x.mid(-1, 1), BAD);
        x.shut(3);
        due("SHUT", x.mid(3, 6), STATE);
        chance(x, "one over it is SHUT", x.mid(0, 6), 3, 1);
        PaneOrder y = on("m0022 p0022");
        chance(y, "COVERS none", y.mid(0, 6), 0, 1);
    }

    private static void lots() {
        promise = "34";
        PaneOrder none = new PaneOrder();
        due("no PANES", none.lots(1, 1), STATE);
        due("BAD ahead of STATE", none.lots(0, 1), BAD);
        // 48271: SHUT PANE 1; 182605794: MOVED PANE 0 by -3, -3.
        PaneOrder x = on("p3311 p0022");
        due("one lot", x.lots(1, 1), 1);
        due("SHUT", x.count(5), 2);
        x.undo(0);
        due("two lots", x.lots(2, 1), 1);
        due("DEEDS", x.count(2), 2);
        due("SHUT", x.count(5), 2);
        due("LEFT", tell(x, 0, 1), 0);
        due("TOP", tell(x, 0, 2), 0);
        due("undone", x.undo(1), 1);
        due("LEFT", tell(x, 0, 1), 3);
        x = on("p0011 p0022");
        x.lots(2, 1);
        due("a DEED of nothing is one", x.count(2), 2);
        due("LEFT", tell(x, 0, 1), 0);
        due("it is undone", x.undo(1), 1);
        due("SHUT as before", x.count(5), 2);
        reordersByLots();
        x = on("p0011 p0022");
        due("lots(0, 1)", x.lots(0, 1), BAD);
        due("lots(21, 1)", x.lots(21, 1), BAD);
        due("lots(1, 0)", x.lots(1, 0), BAD);
        due("lots(1, -1)", x.lots(1, -1), BAD);
        due("lots(1, MOST)", x.lots(1, MOST), BAD);
        due("the greatest seed", x.lots(1, MOST - 1) >= 0 ? 1 : 0, 1);
        x.undo(0);
        x.lots(20, 9);
        x.lots(19, 9);
        due("DEEDS", x.count(2), 39);
        due("one too many", x.lots(2, 5), FULL);
        due("none too many", x.lots(1, 5) >= 0 ? 1 : 0, 1);
        due("full", x.lots(1, 5), FULL);
        due("full, BAD", x.lots(1, 0), BAD);
        due("DEEDS", x.count(2), 40);
    }

    /** Seeds whose first number RAISES, or LOWERS, one of three PANES that can be, or can't. */
    private static void reordersByLots() {
        int[] met = new int[4];
        for (int seed = 1; seed <= 60; seed++) {
            PaneOrder x = on("p0011 p0011 p0011");
            long it = 48271L * seed % 2147483647L;
            int i = (int) (it / 8 % 3);
            if (it % 4 < 2) {
                due("lots(1, " + seed + ")", x.lots(1, seed), 1);
                String raised = i == 0 ? "120" : i == 1 ? "021" : "012";
                String lowered = i == 0 ? "012" : i == 1 ? "102" : "201";
                orderIs(x, it % 4 == 0 ? raised : lowered);
                due("a DEED", x.count(2), 1);
                met[(int) (it % 4) * 2 + (i == 1 ? 1 : 0)]++;
                due("undone", x.undo(0), 1);
                orderIs(x, "012");
            }
        }
        for (int n : met) {
            due("was met", n > 0 ? 1 : 0, 1);
        }
    }

    // ---- 8 what is told

    private static void asked() {
        promise = "35";
        PaneOrder x = new PaneOrder();
        due("before", x.asked(), 0);
        x = on("p0022 p1122");
        due("before", x.asked(), 0);
        fill(x, 0, 5, 6);
        told(x, "mean", x.mean(0), 1, 5);
        x.at(0, 9);
        x.lay(1, 0, 3);
        x.mean(1);
        x.pane(0, 9);
        x.seen(95);
        x.seen(96);
        x.both(0, 0);
        x.free(2);
        x.shift(2);
        x.places(0, 1);
        x.test(0, 1);
        due("refused, or NONE", x.asked(), 5);
        x.row(2, 3);
        x.text(1, 3);
        x.put(1, 1, 3);
        x.fault(1);
        x.mark(0, 1);
        x.covers(0, 0);
        x.raise(0);
        x.sink(0);
        x.move(0, 1, 0);
        x.shut(1);
        x.keep(0);
        x.on(0);
        x.undo(0);
        x.order(3);
        x.row(4, 0);
        x.kinds(0, 4);
        x.duel(0, 1);
        x.odds(0, 1);
        x.mid(0, 1);
        x.lots(1, 1);
        x.count(3);
        x.digest();
        x.tear(4);
        x.copy(0, 0, 0, 0, 1);
        x.screen(0);
        due("what tells otherwise", x.asked(), 5);
        told(x, "buried", x.buried(), 0, 89);
    }

    private static void upperAndLower() {
        promise = "36, 37";
        PaneOrder x = new PaneOrder();
        due("upper() before", x.upper(), 0);
        due("lower() before", x.lower(), 1);
        x = on("p0022 p1122");
        chance(x, "odds", x.odds(0, 4), 1, 3);
        chance(x, "mid", x.mid(0, 3), 13, 4);
        x.odds(0, 13);
        x.mid(3, 3);
        x.digest();
        x.buried();
        due("as told last", x.upper(), 13);
        due("as told last", x.lower(), 4);
    }

    private static void count() {
        promise = "38";
        PaneOrder x = on("p0022 f0022 h3333 g5022 m5233 t9011 p9011");
        x.row(0, 0);
        x.row(5, 3);
        x.row(2, 1);
        x.text(3, 0);
        x.keep(1);
        x.shut(4);
        x.shut(2);
        int[] want = {7, 5, 2, 3, 7, 20, 3, 2, 1, 2, 2};
        for (int what = 0; what <= 10; what++) {
            due("count(" + what + ")", x.count(what), want[what]);
        }
        due("count(11)", x.count(11), BAD);
        due("count(-1)", x.count(-1), BAD);
        due("count(LEAST)", x.count(LEAST), BAD);
    }

    private static void finding() {
        promise = "39, 40";
        PaneOrder x = new PaneOrder();
        due("before any", x.finding(), 0);
        for (int f = 1; f <= 5; f++) {
            due("findings(" + f + ") before", x.findings(f), 0);
        }
        x.row(6, 0);
        x.order(0);
        x.raise(0);
        due("others are none", x.finding(), 0);
        x.tear(0);
        x.row(0, 0);
        x.mean(0);
        x.at(0, 0);
        x.at(0, 0);
        x.row(0, -1);
        int[] want = {1, 2, 0, 1, 1};
        for (int f = 1; f <= 5; f++) {
            due("findings(" + f + ")", x.findings(f), want[f - 1]);
        }
        due("the latest", x.finding(), SIZE);
        x.row(1, 1);
        x.row(1, 50);
        due("the latest stays", x.finding(), SIZE);
        write(x, 0, "p0011p0011");
        x.screen(0);
        found(x, "UNLIKE", 0, x.mark(0, 3), UNLIKE);
        due("findings(0)", x.findings(0), BAD);
        due("findings(6)", x.findings(6), BAD);
        due("findings(-1)", x.findings(-1), BAD);
        due("findings(MOST)", x.findings(MOST), BAD);
    }

    private static long fold(long h, long... all) {
        for (long v : all) {
            h = 31 * h + v;
        }
        return h;
    }

    private static void digest() {
        promise = "41";
        PaneOrder x = new PaneOrder();
        long h = fold(17, 0, 0, 0, 0, 0, 0, 0, 0, 0, 0, 0);
        due("of a new object", x.digest(), fold(h, -1, -1, -1, -1, -1, -1, -1, -1, -1, -1, -1, -1, -1));
        x = on("p0022 h1132");
        x.keep(0);
        x.raise(0);
        x.shut(1);
        x.keep(2);
        fill(x, 1, 7, -8);
        x.row(4, 0);
        x.text(0, 0);
        x.text(3, 2);
        x.put(3, 1, 200);
        int before = x.asked();
        h = fold(17, 2, 1, 2, 1, 4, 2, 2, 2, 2, 1, 0);
        h = fold(h, 0, 0, 0, 2, 2, 1, 1, 4);
        h = fold(h, 4, 1, 1, 3, 2, 0, 0, 0);
        h = fold(h, 0, -1, 2);
        h = fold(h, -1, 2, 7, -8, -1, -1, 0, -1);
        h = fold(h, 0, -1, -1, 2, 32, -56);
        due("of all there is", x.digest(), h);
        due("again", x.digest(), h);
        due("asked() as before", x.asked(), before);
    }
}
