/** The boundary cases of promises 35 to 41: what is told. */
final class ToldCases {
    private static final String SEVEN = "[p0071 p0061 p0051 p0041 p0031 p0021 p0011]";
    private final Sentences s;

    ToldCases(Sentences s) {
        this.s = s;
    }

    void all() {
        asked();
        askedAfterRefusals();
        upperAndLower();
        count();
        finding();
        findings();
        digest();
        digestOfAll();
    }

    private void asked() {
        s.sentence(35, "What the latest lay(), at(), mean(), pane(), seen(), buried(), both(), free(), shift(), places(),"
                + " test()");
        s.told("{0: 8} lay(0, 0, 5)", 1, 8);
        s.told("{0: 8} at(0, 0)", 1, 8);
        s.told("{0: 8 9} mean(0)", 1, 8);
        s.told("[p0022 p1122] pane(0, 3)", 1, 2);
        s.told("[p0022 p1122] seen(13)", 1, 2);
        s.told("[p0022 p1122] buried()", 0, 89);
        s.told("[p0022 p1122] both(1, 0)", 1, 1);
        s.told("[p0022 p1122] free(0)", 2, 1);
        s.told("[p0022 p1122] shift(0)", 36, 4);
        s.told("[p0022 p1122] row(0, 0) places(0, 0)", 77, 0);
        s.told("[p0022 p1122] row(0, 0) test(1, 0)", 14, 4);
        s.sentence(35, "0 before.");
        s.is("asked()", 0);
        s.is("[p0022 p1122] raise(0) keep(0) order(1) row(2, 0) kinds(0, 2) duel(0, 3) odds(0, 3) asked()", 0);
    }

    private void askedAfterRefusals() {
        String before = "[p0022 p1122] shut(1) {0: 5 7} {3: 0 1} mean(0)";
        s.sentence(35, "that was not refused (nor answered NONE) told");
        s.refused(before, "lay(0, 2, 1)", "BEYOND");
        s.refused(before, "at(1, 0)", "NOTHING");
        s.refused(before + " row(1, 0)", "mean(1)", "NOUGHT");
        s.refused(before, "pane(2, 0)", "BAD");
        s.refused(before, "pane(0, 8)", "BAD");
        s.refused(before, "seen(95)", "NONE");
        s.refused(before, "seen(96)", "BAD");
        s.refused(before, "both(0, 0)", "BAD");
        s.refused(before, "free(1)", "STATE");
        s.refused(before, "shift(1)", "STATE");
        s.refused(before, "places(0, 3)", "NONE");
        s.refused(before, "places(0, 4)", "NOTHING");
        s.refused(before, "test(0, 3)", "NONE");
        s.refused(before, "test(2, 3)", "BAD");
        for (String call : new String[] {"row(0, 1)", "tear(0)", "copy(0, 0, 0, 1, 1)", "text(0, 4)", "put(0, 0, 3)",
            "fault(0)", "screen(0)", "mark(0, 1)", "covers(0, 0)", "raise(0)", "sink(1)", "move(0, 1, 1)", "shut(0)",
            "undo(0)", "keep(0)", "on(0)", "order(0)", "kinds(0, 3)", "duel(0, 1)", "odds(0, 1)", "mid(0, 1)",
            "lots(20, 1)", "upper()", "lower()", "count(3)", "finding()", "findings(1)", "digest()"}) {
            s.is(before + " " + call + " asked()", 6);
        }
    }

    private void upperAndLower() {
        String before = "[p0022 p1122] mid(0, 3) shut(1)";
        s.sentence(36, "The upper number that was told last; 0 before.");
        s.is("upper()", 0);
        s.is("[p0022 p1122] seen(0) upper()", 0);
        s.is(before + " upper()", 13);
        s.is(before + " odds(1, 3) upper()", 13);
        s.is(before + " mid(1, 3) upper()", 13);
        s.is(before + " odds(0, 13) upper()", 13);
        s.is(before + " screen(0) digest() upper()", 13);
        s.is(before + " odds(0, 0) upper()", 1);
        s.is("[p0098 p9711] mid(0, 0) upper()", 72);
        s.sentence(37, "Its lower number; 1 before.");
        s.is("lower()", 1);
        s.is("[p0022 p1122] seen(0) lower()", 1);
        s.is(before + " lower()", 4);
        s.is(before + " odds(1, 3) lower()", 4);
        s.is(before + " mid(1, 3) lower()", 4);
        s.is(before + " odds(0, 13) lower()", 4);
        s.is(before + " screen(0) digest() lower()", 4);
        s.is("[p0011 p0011] odds(0, 7) odds(0, 0) lower()", 1);
    }

    private void counts(String run, int... want) {
        for (int what = 0; what <= 10; what++) {
            s.is(run + " count(" + what + ")", want[what]);
        }
    }

    private void count() {
        s.sentence(38, "0 PANES, 1 how many are OPEN, 2 DEEDS, 3 how many are SEEN, 4 CELLS that show one, 5 those that are"
                + " SHUT (bits), 6 ROWS, 7 TEXTS that are there, 8 kept SCREENS, 9 FRAMES (HOOKS, too), 10 GLASS (MIST,"
                + " too).");
        counts("", 0, 0, 0, 0, 0, 0, 0, 0, 0, 0, 0);
        counts("[p0011 p0011]", 2, 2, 0, 1, 1, 0, 0, 1, 0, 0, 0);
        counts(SEVEN, 7, 7, 0, 7, 7, 0, 0, 1, 0, 0, 0);
        counts(SEVEN + " shut(0) shut(1) shut(2) shut(3) shut(4) shut(5) shut(6)", 7, 0, 7, 0, 0, 127, 0, 1, 0, 0, 0);
        counts("[p0098 p3098] 40x shut(1)", 2, 2, 40, 2, 96, 0, 0, 1, 0, 0, 0);
        counts("[p0098 p3098] 39x shut(1)", 2, 1, 39, 1, 72, 2, 0, 1, 0, 0, 0);
        counts("[f0011 h0011 f0011 h0011 f0011 h0011 f0011]", 7, 7, 0, 1, 1, 0, 0, 1, 0, 7, 0);
        counts("[g0011 m0011 g0011 m0011 g0011 m0011 m0011]", 7, 7, 0, 1, 1, 0, 0, 1, 0, 0, 7);
        counts("[f0011 m0011] shut(0) shut(1)", 2, 0, 2, 0, 0, 3, 0, 1, 0, 1, 1);
        counts("[t0011 p0011] row(0, 0) row(1, 0) row(2, 0) row(3, 0) row(4, 0) row(5, 0) text(1, 0) text(2, 0) text(3, 0)"
                + " keep(0) keep(1) keep(2)", 2, 2, 0, 1, 1, 0, 6, 4, 3, 0, 0);
        s.sentence(38, "BAD.");
        s.bounds("", "count(#)", 0, 10);
        s.bounds("[p0011 p0011]", "count(#)", 0, 10);
    }

    private void finding() {
        s.sentence(39, "The latest FINDING (0 before any).");
        s.is("finding()", 0);
        s.is("row(6, 0) row(0, 41) order(0) keep(0) seen(0) finding()", 0);
        s.is("[p0011 p0011] 41x shut(0) raise(1) finding()", 0);
        s.is("tear(0) finding()", 1);
        s.is("row(0, 0) at(0, 0) finding()", 2);
        s.is("[p0011 p0011] mark(0, 1) finding()", 3);
        s.is("row(0, 0) mean(0) finding()", 4);
        s.is("row(0, -1) finding()", 5);
        s.is("row(0, -1) tear(0) finding()", 1);
        s.is("row(0, -1) row(0, 41) row(0, 1) at(0, 0) keep(0) seen(0) finding()", 5);
        s.is("tear(0) [p0011 p0011] finding()", 1);
    }

    private void findings() {
        s.sentence(40, "How often a FINDING (1 .. 5) was answered.");
        for (int f = 1; f <= 5; f++) {
            s.is("findings(" + f + ")", 0);
            s.is("row(6, 0) row(0, 41) order(0) keep(0) seen(0) findings(" + f + ")", 0);
            s.is("tear(0) row(0, 0) 2x at(0, 0) [p0011 p0011] 3x mark(0, 1) 4x mean(0) 5x row(0, -1) findings(" + f + ")", f);
            s.is("tear(0) row(0, 0) 2x at(0, 0) [p0011 p0011] 3x mark(0, 1) 4x mean(0) 5x row(0, -1) screen(0) keep(0)"
                    + " on(0) findings(" + f + ")", f);
        }
        s.is("500x tear(0) findings(1)", 500);
        s.sentence(40, "BAD.");
        s.bounds("", "findings(#)", 1, 5);
        s.bounds("tear(0)", "findings(#)", 1, 5);
    }

    private static long fold(long h, long... all) {
        for (long v : all) {
            h = 31 * h + v;
        }
        return h;
    }

    private void digest() {
        s.sentence(41, "h = 17; then h = 31 h + v for each v: count() 0 to 10; of each PANE pane() 0 to 7; of each kept SCREEN"
                + " how many DEEDS (-1: missing); of each ROW its size (-1: missing) and places, of each TEXT likewise.");
        long none = fold(17, 0, 0, 0, 0, 0, 0, 0, 0, 0, 0, 0, -1, -1, -1);
        s.is("digest()", fold(none, -1, -1, -1, -1, -1, -1, -1, -1, -1, -1));
        long empty = fold(17, 0, 0, 0, 0, 0, 0, 1, 1, 0, 0, 0, -1, -1, -1);
        s.is("row(0, 0) text(3, 0) digest()", fold(empty, 0, -1, -1, -1, -1, -1, -1, -1, -1, 0));
        s.is("row(5, 1) text(0, 1) digest()", fold(empty, -1, -1, -1, -1, -1, 1, 0, 1, 32, -1, -1, -1));
        s.is("{5: LEAST} text(0, 1) put(0, 0, 128) digest()",
                fold(empty, -1, -1, -1, -1, -1, 1, Integer.MIN_VALUE, 1, -128, -1, -1, -1));
        s.is("{5: 3 MOST} row(5, 1) text(0, 2) text(0, 1) digest()",
                fold(empty, -1, -1, -1, -1, -1, 1, 0, 1, 32, -1, -1, -1));
        s.is("{5: 3} tear(5) row(5, 1) text(0, 1) digest()",
                fold(empty, -1, -1, -1, -1, -1, 1, 0, 1, 32, -1, -1, -1));
    }

    /** Full rows and texts, so that h goes far beyond what a long holds. */
    private void digestOfAll() {
        StringBuilder run = new StringBuilder("[p0098 h3098]");
        run.append(" 40x shut(1) keep(2) undo(3) keep(0) undo(0)");
        long h = fold(17, 2, 2, 0, 2, 75, 0, 6, 4, 2, 1, 0);
        h = fold(h, 0, 0, 0, 9, 8, 0, 1, 59);
        h = fold(h, 4, 3, 0, 9, 8, 1, 1, 16);
        h = fold(h, 3, -1, 40);
        for (int r = 0; r < 6; r++) {
            run.append(" row(" + r + ", 40) lay(" + r + ", 0, LEAST) lay(" + r + ", 39, MOST)");
            h = fold(h, 40, Integer.MIN_VALUE);
            h = fold(h, new long[38]);
            h = fold(h, Integer.MAX_VALUE);
        }
        for (int t = 0; t < 4; t++) {
            run.append(" text(" + t + ", 60) put(" + t + ", 59, 255)");
            h = fold(h, 60);
            for (int i = 0; i < 59; i++) {
                h = fold(h, 32);
            }
            h = fold(h, -1);
        }
        s.is(run + " digest()", h);
    }
}
