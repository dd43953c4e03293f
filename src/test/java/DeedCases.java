/** The boundary cases of promises 15 to 21: deeds, undone, kept. */
final class DeedCases {
    private static final String THREE = "[p0022 t1122 p2222]";
    private static final String SEVEN = "[p0011 p0011 p0011 p0011 p0011 p0011 p0011]";
    private final Sentences s;

    DeedCases(Sentences s) {
        this.s = s;
    }

    void all() {
        raise();
        sink();
        move();
        moveRefused();
        shut();
        undo();
        undoOfEach();
        keep();
        on();
    }

    private void raise() {
        s.sentence(15, "RAISED: at which place of THE ORDER it was.");
        s.is(SEVEN + " raise(0)", 0);
        s.is(SEVEN + " raise(5)", 5);
        s.is(SEVEN + " 3x raise(0) raise(1)", 0);
        s.is("[t0011 p0011] raise(0)", 0);
        s.is(THREE + " shut(0) raise(0)", 0);
        s.sentence(15, "BAD; STATE: it is the last; FULL: 40 DEEDS. (FULL last.)");
        s.bounds(THREE, "raise(#)", 0, 2);
        s.refused("", "raise(0)", "BAD");
        s.refused(THREE, "raise(2)", "STATE");
        s.refused(THREE + " raise(0)", "raise(0)", "STATE");
        s.refused("[p0011 t0011]", "raise(1)", "STATE");
        s.refused(SEVEN, "raise(6)", "STATE");
        s.refused(THREE + " 40x shut(0)", "raise(0)", "FULL");
        s.refused(THREE + " 40x shut(0)", "raise(2)", "STATE");
        s.refused(THREE + " 40x shut(0)", "raise(3)", "BAD");
        s.is(THREE + " 39x shut(0) raise(0)", 0);
        s.is(THREE + " 39x shut(0) raise(0) count(2)", 40);
    }

    private void sink() {
        s.sentence(16, "LOWERED: at which place it was.");
        s.is(SEVEN + " sink(6)", 6);
        s.is(SEVEN + " sink(1)", 1);
        s.is(SEVEN + " sink(6) sink(5)", 6);
        s.is("[p0011 t0011] sink(1)", 1);
        s.is(THREE + " shut(2) sink(2)", 2);
        s.sentence(16, "BAD; STATE: it is the first; FULL. (FULL last.)");
        s.bounds(THREE, "sink(#)", 0, 2);
        s.refused("", "sink(0)", "BAD");
        s.refused(THREE, "sink(0)", "STATE");
        s.refused(THREE + " sink(2)", "sink(2)", "STATE");
        s.refused("[t0011 p0011]", "sink(0)", "STATE");
        s.refused(THREE + " 40x shut(0)", "sink(2)", "FULL");
        s.refused(THREE + " 40x shut(0)", "sink(0)", "STATE");
        s.refused(THREE + " 40x shut(0)", "sink(-1)", "BAD");
        s.is(THREE + " 39x shut(0) sink(2)", 2);
        s.is(THREE + " 39x shut(0) sink(2) count(2)", 40);
    }

    private void move() {
        s.sentence(17, "MOVED by x COLUMNS (to the right), y LINES (down): its CELL at the left above then.");
        s.is("[p3311 p0011] move(0, -3, -3)", 0);
        s.is("[p3311 p0011] move(0, 3, 3)", 78);
        s.is("[p3311 p0011] move(0, -3, 3)", 72);
        s.is("[p3311 p0011] move(0, 3, -3)", 6);
        s.is("[p3311 p0011] move(0, 1, 0)", 40);
        s.is("[p3311 p0011] move(0, 0, 1)", 51);
        s.is("[p9511 p0011] move(0, 2, 2)", 95);
        s.is("[p9511 p0011] move(0, 2, 0)", 71);
        s.is("[p0098 p0011] move(0, 3, 0)", 3);
        s.is("[p0018 p0011] move(0, 3, 0)", 3);
        s.is("[p3311 p0011] shut(0) move(0, 1, 0)", 40);
        s.is("[m3311 p0011] move(0, 1, 0)", 40);
    }

    private void moveRefused() {
        s.sentence(17, "BAD: also none of both; STATE: not wholly on THE SCREEN; FULL. (FULL last.)");
        s.refused("[p3311 p0011]", "move(0, 0, 0)", "BAD");
        s.bounds("[p3311 p3311]", "move(#, 1, 1)", 0, 1);
        s.bounds("[p3311 p0011]", "move(0, #, 1)", -3, 3);
        s.bounds("[p3311 p0011]", "move(0, 1, #)", -3, 3);
        s.bounds("[p3311 p0011]", "move(0, #, 0)", -3, 3);
        s.bounds("[p3311 p0011]", "move(0, 0, #)", -3, 3);
        s.refused("", "move(0, 1, 1)", "BAD");
        s.refused("[p0098 p0011]", "move(0, 4, 0)", "BAD");
        s.refused("[p0333 p0011]", "move(0, -1, 0)", "STATE");
        s.refused("[p3033 p0011]", "move(0, 0, -1)", "STATE");
        s.refused("[p9333 p0011]", "move(0, 1, 0)", "STATE");
        s.refused("[p3533 p0011]", "move(0, 0, 1)", "STATE");
        s.refused("[p2233 p0011]", "move(0, -3, 0)", "STATE");
        s.refused("[p2233 p0011]", "move(0, 0, -3)", "STATE");
        s.refused("[p0333 p0011]", "move(0, -1, 1)", "STATE");
        s.refused("[p0098 p0011]", "move(0, 1, 1)", "STATE");
        s.refused("[m9731 p0011]", "move(0, 1, 0)", "STATE");
        s.refused("[p9731 p0011] shut(0)", "move(0, 0, 3)", "STATE");
        s.refused("[p3311 p0011] 40x shut(0)", "move(0, 1, 0)", "FULL");
        s.refused("[p3311 p0011] 40x shut(0)", "move(1, -1, 0)", "STATE");
        s.refused("[p3311 p0011] 40x shut(0)", "move(0, 0, 0)", "BAD");
        s.refused("[p3311 p0011] 40x shut(0)", "move(0, 4, 0)", "BAD");
        s.is("[p3311 p0011] 39x shut(0) move(0, 1, 0)", 40);
        s.is("[p3311 p0011] 39x shut(0) move(0, 1, 0) count(2)", 40);
    }

    private void shut() {
        s.sentence(18, "SHUT, or OPENED: how many are OPEN.");
        s.is(SEVEN + " shut(6)", 6);
        s.is("[p0011 p0011] shut(0) shut(1)", 0);
        s.is("[p0011 p0011] shut(0) shut(1) shut(1)", 1);
        s.is("[p0011 p0011] 2x shut(0)", 2);
        s.is("[p0011 m0011] shut(1)", 1);
        s.sentence(18, "BAD; FULL. (FULL last.)");
        s.bounds(THREE, "shut(#)", 0, 2);
        s.refused("", "shut(0)", "BAD");
        s.refused(THREE + " 40x shut(0)", "shut(0)", "FULL");
        s.refused(THREE + " 40x shut(0)", "shut(2)", "FULL");
        s.refused(THREE + " 40x shut(0)", "shut(3)", "BAD");
        s.is(THREE + " 39x shut(0) shut(1)", 1);
        s.is(THREE + " 40x shut(0) count(2)", 40);
    }

    private void undo() {
        s.sentence(19, "DEEDS from number n on are undone: how many.");
        s.is("undo(0)", 0);
        s.is(THREE + " undo(0)", 0);
        s.is(THREE + " shut(0) undo(1)", 0);
        s.is(THREE + " shut(0) undo(0)", 1);
        s.is(THREE + " 40x shut(0) undo(40)", 0);
        s.is(THREE + " 40x shut(0) undo(39)", 1);
        s.is(THREE + " 40x shut(0) undo(0)", 40);
        s.is(THREE + " 40x shut(0) undo(0) count(2)", 0);
        s.alike(THREE + " raise(0) shut(1) sink(2) undo(3)", THREE + " raise(0) shut(1) sink(2)");
        s.alike(THREE + " raise(0) shut(1) sink(2) undo(1)", THREE + " raise(0)");
        s.alike(THREE + " 39x shut(0) raise(0) undo(39)", THREE + " 39x shut(0)");
        s.is(THREE + " 40x shut(0) undo(30) 10x shut(0) count(2)", 40);
        s.sentence(19, "BAD.");
        s.refused("", "undo(1)", "BAD");
        s.refused("", "undo(-1)", "BAD");
        s.bounds(THREE, "undo(#)", 0, 0);
        s.bounds(THREE + " shut(0) shut(1)", "undo(#)", 0, 2);
        s.bounds(THREE + " 40x shut(0)", "undo(#)", 0, 40);
        s.refused(THREE + " 5x shut(0) undo(2)", "undo(3)", "BAD");
    }

    private void undoOfEach() {
        s.sentence(19, "DEEDS from number n on are undone: how many.");
        String[] deeds = {"raise(0)", "raise(1)", "sink(1)", "sink(2)", "move(0, 3, 3)", "move(2, -2, -2)",
            "move(1, 0, 3)", "shut(0)", "shut(2)", "2x shut(1)", "lots(1, 1)", "lots(20, 7)"};
        for (String first : deeds) {
            s.alike(THREE + " " + first + " undo(0)", THREE);
            for (String second : deeds) {
                s.alike(THREE + " " + first + " " + second + " undo(0)", THREE);
            }
        }
    }

    private void keep() {
        s.sentence(20, "The SCREEN (as it is, DEEDS) is kept in a place (0 .. 2): how many DEEDS.");
        s.is(THREE + " keep(0)", 0);
        s.is(THREE + " 40x shut(0) keep(2)", 40);
        s.is(THREE + " keep(1) raise(0) keep(1)", 1);
        s.is(THREE + " keep(1) raise(0) keep(1) count(8)", 1);
        s.is(THREE + " keep(0) keep(1) keep(2) count(8)", 3);
        s.is(THREE + " shut(0) keep(0) undo(0) keep(0) raise(0) on(0)", 0);
        s.alike(THREE + " shut(0) keep(0) undo(0)", THREE + " shut(0) keep(0) 3x shut(1) undo(0)");
        s.sentence(20, "BAD; STATE: no PANES.");
        s.bounds(THREE, "keep(#)", 0, 2);
        s.refused("", "keep(0)", "STATE");
        s.refused("", "keep(2)", "STATE");
        s.refused("'p0011p0011'", "keep(0)", "STATE");
        s.refused("", "keep(-1)", "BAD");
    }

    private void on() {
        String full = THREE + " 20x shut(0) 20x shut(1)";
        s.sentence(21, "The SCREEN is as it was kept: how many DEEDS.");
        s.is(THREE + " keep(2) shut(0) on(2)", 0);
        s.is(full + " keep(0) undo(0) on(0)", 40);
        s.alike(full + " keep(0) undo(0) raise(0) on(0)", full + " keep(0)");
        s.refused(full + " keep(0) undo(0) on(0)", "shut(0)", "FULL");
        s.alike(THREE + " raise(0) move(1, 1, 1) keep(1) undo(0) 2x shut(2) sink(1) on(1)",
                THREE + " raise(0) move(1, 1, 1) keep(1)");
        s.alike(THREE + " raise(0) keep(1) shut(0) on(1) undo(0) shut(1) on(1)", THREE + " raise(0) keep(1)");
        s.is(THREE + " keep(0) shut(0) keep(1) shut(1) keep(2) on(0) on(1)", 1);
        s.is(THREE + " keep(0) shut(0) keep(1) shut(1) keep(2) on(0) on(2)", 2);
        s.is(THREE + " keep(0) on(0) on(0)", 0);
        s.is(THREE + " keep(0) on(0) count(8)", 1);
        s.sentence(21, "BAD; NOTHING.");
        s.bounds(THREE + " keep(0) keep(2)", "on(#)", 0, 2);
        s.refused("", "on(0)", "NOTHING");
        s.refused("", "on(3)", "BAD");
        s.refused(THREE + " raise(0) keep(0) keep(2)", "on(1)", "NOTHING");
        s.refused(THREE + " raise(0) keep(0) screen(0)", "on(0)", "NOTHING");
    }
}
