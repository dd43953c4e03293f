/** The boundary cases of promises 10 to 14: texts read, screens, what panes tell. */
final class ScreenCases {
    private static final String ALL = "[p0022 f1133 g2233 t4411 h5522 m0444 p9711]";
    private final Sentences s;

    ScreenCases(Sentences s) {
        this.s = s;
    }

    void all() {
        fault();
        screen();
        pane();
        paneAtItsEnds();
        mark();
        markOfTop();
        markRefused();
        covers();
    }

    private void fault() {
        s.sentence(10, "A FAULT of a TEXT; NONE: there is none.");
        s.refused("'p0011p0011'", "fault(0)", "NONE");
        s.refused("[p0022 p1122] raise(0) keep(2) 'p0011f0011g0011t0011h0011m0011p0011'", "fault(0)", "NONE");
        s.is("text(3, 60) fault(3)", 60);
        s.is("text(0, 0) fault(0)", 0);
        s.aside("[p0022 p1122] raise(0) keep(2) shut(1) 'p0011 q'", "fault(0)", 6);
        s.sentence(10, "BAD; NOTHING.");
        s.bounds("text(0, 1) text(3, 1)", "fault(#)", 0, 3);
        s.refused("text(0, 1)", "fault(1)", "NOTHING");
    }

    private void screen() {
        String changed = "[p0022 p1122] raise(0) shut(1) move(0, 1, 1) keep(0) keep(1) keep(2)";
        s.sentence(11, "A SCREEN by a TEXT (anew: as told at first, no DEEDS; kept SCREENS go): how many PANES.");
        s.is("'p0011p0011' screen(0)", 2);
        s.is("'p0011f0011g0011t0011h0011m0011p0011' screen(0)", 7);
        s.alike(changed + " screen(0)", "[p0022 p1122]");
        s.alike(changed + " [t0011 g0055 f0033]", "[t0011 g0055 f0033]");
        s.is(changed + " screen(0) count(2)", 0);
        s.is(changed + " screen(0) count(8)", 0);
        s.refused(changed + " screen(0)", "undo(1)", "BAD");
        s.is("[p0011 p0011 p0011] [p0022 p1122] count(0)", 2);
        s.is("[p0022 p1122] shut(0) shift(1) screen(0) count(1)", 2);
        s.alike("[p0022 p1122] raise(0) shut(0) row(0, 0) kinds(1, 0) screen(0)", "[p0022 p1122] row(0, 0)");
        s.is("[p0022 p1122] 40x shut(0) screen(0) shut(0)", 1);
        s.sentence(11, "BAD; NOTHING; STATE: a FAULT. (STATE behind NOTHING.)");
        s.bounds("text(0, 1) text(3, 1)", "screen(#)", 0, 3);
        s.refused(changed, "screen(1)", "NOTHING");
        s.refused("", "screen(0)", "NOTHING");
        s.refused(changed + " text(1, 0)", "screen(1)", "STATE");
        s.refused(changed + " text(1, 60)", "screen(1)", "STATE");
        s.refused(changed + " 'p0011p0011p001'", "screen(0)", "STATE");
        s.refused(changed + " 'p0011p0011p0011p0011p0011p0011p0011p0011'", "screen(0)", "STATE");
        for (int k = 0; k < 3; k++) {
            s.refused(changed + " screen(0)", "on(" + k + ")", "NOTHING");
        }
    }

    private void pane() {
        s.sentence(12, "BAD.");
        s.bounds("[p0022 p1122]", "pane(#, 0)", 0, 1);
        s.bounds(ALL, "pane(#, 7)", 0, 6);
        s.bounds("[p0022 p1122]", "pane(0, #)", 0, 7);
        s.refused("", "pane(0, 0)", "BAD");
        s.refused("[p0022 p1122 p0011] pane(0, 3) [p0022 p1122]", "pane(2, 0)", "BAD");
    }

    private void paneAtItsEnds() {
        s.sentence(12, "Of a PANE: 0 the KIND, 1 LEFT, 2 TOP, 3 WIDE, 4 HIGH, 5 its place in THE ORDER (0 the lowest),"
                + " 6 whether it is OPEN (1, 0), 7 of how many CELLS it is SEEN, told by asked(): 1.");
        int[] kinds = {0, 1, 2, 3, 4, 5, 0};
        for (int i = 0; i < 7; i++) {
            s.told(ALL + " pane(" + i + ", 0)", 1, kinds[i]);
            s.told(ALL + " pane(" + i + ", 5)", 1, i);
        }
        s.told("[p0098 p9711] pane(0, 1)", 1, 0);
        s.told("[p0098 p9711] pane(0, 2)", 1, 0);
        s.told("[p0098 p9711] pane(0, 3)", 1, 9);
        s.told("[p0098 p9711] pane(0, 4)", 1, 8);
        s.told("[p0098 p9711] pane(0, 7)", 1, 72);
        s.told("[p0098 p9711] pane(1, 1)", 1, 9);
        s.told("[p0098 p9711] pane(1, 2)", 1, 7);
        s.told("[p0098 p9711] pane(1, 3)", 1, 1);
        s.told("[p0098 p9711] pane(1, 4)", 1, 1);
        s.told("[p0098 p9711] move(1, 2, 0) pane(1, 1)", 1, 11);
        s.told("[p0011 p0011] pane(0, 7)", 1, 0);
        s.told("[p0022 p0011] pane(0, 7)", 1, 3);
        s.told("[p0022 p0011] shut(1) pane(0, 7)", 1, 4);
        s.told("[p0022 p0011] shut(1) pane(1, 6)", 1, 0);
        s.told("[p0022 p0011] shut(1) pane(1, 7)", 1, 0);
        s.told("[p0022 p0011] shut(1) pane(1, 5)", 1, 1);
        s.told("[m0022 p9711] pane(0, 7)", 1, 0);
        s.told("[t0022 p0022] pane(0, 7)", 1, 4);
        s.told("[t0022 p0022] pane(1, 5)", 1, 1);
    }

    private void mark() {
        s.sentence(13, "a FRAME (HOOK, too) how many CELLS of its box it does not COVER, GLASS (MIST, too) likewise");
        s.is("[f0011 p0011] mark(0, 1)", 0);
        s.is("[f0028 p0011] mark(0, 1)", 0);
        s.is("[f0092 p0011] mark(0, 1)", 0);
        s.is("[f0033 p0011] mark(0, 1)", 1);
        s.is("[f0098 p0011] mark(0, 1)", 42);
        s.is("[h0011 p0011] mark(0, 1)", 0);
        s.is("[h0018 p0011] mark(0, 1)", 0);
        s.is("[h0022 p0011] mark(0, 1)", 1);
        s.is("[h0098 p0011] mark(0, 1)", 56);
        s.is("[g0011 p0011] mark(0, 2)", 0);
        s.is("[g1011 p0011] mark(0, 2)", 1);
        s.is("[g0098 p0011] mark(0, 2)", 36);
        s.is("[g0033 p0011] mark(0, 2)", 4);
        s.is("[g1033 p0011] mark(0, 2)", 5);
        s.is("[g0033 p9711] move(0, 1, 0) mark(0, 2)", 5);
        s.is("[m0011 p0011] mark(0, 2)", 1);
        s.is("[m0033 p0011] mark(0, 2)", 8);
        s.is("[m0098 p0011] mark(0, 2)", 51);
        s.is("[f0033 p0033] shut(0) mark(0, 1)", 1);
        s.sentence(13, "a HOOK how many fewer CELLS it COVERS than a FRAME alike, MIST than GLASS alike.");
        s.is("[h0011 p0011] mark(0, 4)", 0);
        s.is("[h0018 p0011] mark(0, 4)", 0);
        s.is("[h0091 p0011] mark(0, 4)", 0);
        s.is("[h0022 p0011] mark(0, 4)", 1);
        s.is("[h0098 p0011] mark(0, 4)", 14);
        s.is("[m1011 p0011] mark(0, 5)", 0);
        s.is("[m0011 p0011] mark(0, 5)", 1);
        s.is("[m0033 p0011] mark(0, 5)", 4);
        s.is("[m1033 p0011] mark(0, 5)", 4);
        s.is("[m0098 p0011] mark(0, 5)", 15);
    }

    private void markOfTop() {
        s.sentence(13, "a TOP one how many that are not TOP are after it in THE ORDER");
        s.is("[p0011 t0011] mark(1, 3)", 0);
        s.is("[t0011 t0011] mark(0, 3)", 0);
        s.is("[t0011 t0011 p0011] mark(0, 3)", 1);
        s.is("[t0011 p0011 f0011 g0011 h0011 m0011 p0011] mark(0, 3)", 6);
        s.is("[t0011 p0011 f0011 g0011 h0011 m0011 p0011] raise(0) mark(0, 3)", 0);
        s.is("[p0011 t0011 p0011] sink(1) mark(1, 3)", 2);
        s.is("[t0011 p0011 p0011] shut(1) mark(0, 3)", 2);
    }

    private void markRefused() {
        s.sentence(13, "BAD: also KIND 0; UNLIKE.");
        s.refused("[p0011 f0011]", "mark(0, 0)", "BAD");
        s.refused("[p0011 f0011]", "mark(1, 0)", "BAD");
        s.bounds("[p0011 f0011]", "mark(0, #)", 1, 5);
        s.bounds("[f0011 f0011]", "mark(#, 1)", 0, 1);
        s.refused("", "mark(0, 1)", "BAD");
        String[] is = {"", "1", "2", "3", "14", "25"};
        for (int i = 0; i < 6; i++) {
            for (int kind = 1; kind <= 5; kind++) {
                if (!is[i].contains("" + kind)) {
                    s.refused(ALL, "mark(" + i + ", " + kind + ")", "UNLIKE");
                }
            }
        }
    }

    private void covers() {
        s.sentence(14, "Whether a PANE (OPEN or not) COVERS a CELL: 1, 0.");
        s.is("[p0011 p9711] covers(0, 0)", 1);
        s.is("[p0011 p9711] covers(0, 1)", 0);
        s.is("[p0011 p9731] covers(1, 95)", 1);
        s.is("[p0011 p9731] covers(1, 92)", 0);
        s.is("[p0011 p9711] shut(0) covers(0, 0)", 1);
        s.is("[p0011 p0011] covers(0, 0)", 1);
        s.is("[p0098 p3098] covers(0, 47)", 0);
        s.is("[p0098 p3098] covers(1, 47)", 1);
        s.is("[p0098 p3098] covers(0, 48)", 1);
        s.is("[p0098 p3098] covers(1, 48)", 0);
        s.sentence(14, "BAD.");
        s.bounds("[p0022 p1122]", "covers(#, 0)", 0, 1);
        s.bounds("[p0022 p1122]", "covers(0, #)", 0, 95);
        s.refused("", "covers(0, 0)", "BAD");
    }
}
