/** The boundary cases of the document's beginning and of its terms. */
final class TermsCases {
    private static final int NONE = -9;
    private static final String SEVEN = "p0011f0011g0011t0011h0011m0011p0011";
    private final Sentences s;

    TermsCases(Sentences s) {
        this.s = s;
    }

    void all() {
        calls();
        refusalsInTheirOrder();
        refusalsChangeNothing();
        findings();
        chances();
        bits();
        rowsAndTexts();
        cells();
        blanks();
        howManyPanes();
        figures();
        wrongSigns();
        endsTooEarly();
        letters();
        panesAndFrames();
        glass();
        hooksAndMist();
        order();
        deeds();
        aside();
        pairs();
    }

    private void says(String words) {
        s.sentence(Sentences.TERMS, words);
    }

    private void calls() {
        says("An object is used for at most 512 calls after it has been made");
        s.is("511x row(5, 40) count(6)", 1);
        s.is("510x lay(0, 0, 1) row(0, 1) findings(1)", 510);
        s.is("[p0098 p3098] 490x duel(0, 4) duel(1, 1)", 72);
    }

    private void refusalsInTheirOrder() {
        says("Refused is, the first of these that fits, in this order: BAD -1 (a number that is none, or not as told),"
                + " FULL -2, STATE -4 (not now), SPENT -6 (more than told), FINDING -3 (finding() tells which),"
                + " unless a call says so otherwise.");
        s.refused("", "row(6, -1)", "BAD");
        s.refused("", "lay(6, -1, 0)", "BAD");
        s.refused("", "copy(6, 0, 0, 0, -1)", "BAD");
        s.refused("", "copy(0, 0, -1, 0, -1)", "BAD");
        s.refused("", "text(4, -1)", "BAD");
        s.refused("", "put(-1, -1, 0)", "BAD");
        s.refused("", "keep(3)", "BAD");
        s.refused("", "order(6)", "BAD");
        s.refused("", "lots(21, 1)", "BAD");
        s.refused("", "lots(1, 0)", "BAD");
        s.refused("", "kinds(0, 0)", "BAD");
        s.refused("[p0011 p0011]", "kinds(2, 0)", "BAD");
        s.refused("[p0011 p0011]", "mark(0, 0)", "BAD");
        s.refused("[p0011 p0011] shut(0)", "odds(0, 13)", "BAD");
        s.refused("[p0011 p0011] shut(0)", "mid(0, -1)", "BAD");
        s.refused("[p0011 p0011] 40x shut(0)", "lots(0, 1)", "BAD");
        s.refused("[p0011 p0011] 40x shut(0)", "move(1, 0, 0)", "BAD");
        s.refused("[p0011 p0011] 40x shut(0)", "shut(2)", "BAD");
    }

    private void refusalsChangeNothing() {
        String much = "[p0022 t1122 g2233] {0: 5 7} {1: 0} row(2, 0) {3: 96 0} odds(0, 5) keep(0) raise(0) move(1, 1, 1)"
                + " keep(2) shut(2) tear(5) mean(0)";
        says("What is refused changes nothing but finding(), findings().");
        String[][] refusals = {{"row(0, 41)", "BAD"}, {"row(0, -1)", "SIZE"}, {"lay(0, 2, 1)", "BEYOND"},
            {"at(5, 0)", "NOTHING"}, {"tear(5)", "NOTHING"}, {"copy(0, 1, 0, 0, 2)", "BEYOND"}, {"mean(2)", "NOUGHT"},
            {"text(0, 61)", "BAD"}, {"text(0, -1)", "SIZE"}, {"put(0, 17, 1)", "BEYOND"}, {"fault(1)", "NOTHING"},
            {"screen(3)", "NOTHING"}, {"pane(0, 8)", "BAD"}, {"mark(0, 1)", "UNLIKE"}, {"covers(0, 96)", "BAD"},
            {"raise(0)", "STATE"}, {"sink(1)", "STATE"}, {"move(0, -1, 0)", "STATE"}, {"shut(3)", "BAD"},
            {"undo(4)", "BAD"}, {"keep(3)", "BAD"}, {"on(1)", "NOTHING"}, {"seen(96)", "BAD"}, {"both(1, 1)", "BAD"},
            {"free(2)", "STATE"}, {"shift(2)", "STATE"}, {"order(6)", "BAD"}, {"kinds(0, 1)", "SIZE"},
            {"places(0, 3)", "UNLIKE"}, {"test(0, 5)", "NOTHING"}, {"duel(0, 5)", "BAD"}, {"odds(2, 5)", "STATE"},
            {"mid(0, 13)", "BAD"}, {"lots(21, 1)", "BAD"}, {"count(11)", "BAD"}, {"findings(6)", "BAD"}};
        for (String[] one : refusals) {
            s.refused(much, one[0], one[1]);
        }
    }

    private void findings() {
        says("FINDINGS: 1 NOTHING (a ROW, a TEXT, a kept SCREEN that is missing)");
        s.refused("", "at(0, 0)", "NOTHING");
        s.refused("", "fault(0)", "NOTHING");
        s.refused("", "on(0)", "NOTHING");
        says("2 BEYOND (a place that there is not)");
        s.refused("row(0, 3)", "at(0, 3)", "BEYOND");
        s.refused("text(0, 3)", "put(0, -1, 0)", "BEYOND");
        says("3 UNLIKE (a PANE of another KIND; a number that is none)");
        s.refused("[p0011 p0011]", "mark(0, 1)", "UNLIKE");
        s.refused("[p0011 p0011] {0: 96 0}", "kinds(0, 0)", "UNLIKE");
        says("4 NOUGHT (shared among none)");
        s.refused("row(0, 0)", "mean(0)", "NOUGHT");
        says("5 SIZE (fewer than none; not as many as due)");
        s.refused("", "row(0, -1)", "SIZE");
        s.refused("[p0011 p0011] row(0, 1)", "kinds(0, 0)", "SIZE");
    }

    private void chances() {
        says("Chances, means are told by upper(), lower(), in lowest terms, the lower number above 0 (0 by 1).");
        s.chance("[p0011 p0011] odds(0, 0)", 0, 1);
        s.chance("[p0011 p0011] mid(0, 0)", 0, 1);
        s.chance("[p0011 p0011] odds(0, 12)", 1, 1);
        s.chance("[p0022 p0011] mid(0, 0)", 3, 1);
        s.chance("[p0011 p0011] odds(0, 8)", 2, 3);
        s.chance("[p0022 p0011] mid(0, 10)", 23, 6);
        s.chance("[p0011 p0011 p0011 p0011 p0011 p0011 p0011] odds(0, 1)", 1, 2985984);
        s.chance("[p0011 p0011 p0011 p0011 p0011 p0011 p0011] odds(0, 11)", 1771561, 2985984);
        s.chance("[p0011 p0011 p0011 p0011 p0011 p0011 p0011] mid(0, 11)", 1771561, 2985984);
    }

    private void bits() {
        says("Sets (of PANES, KINDS) are told by bits.");
        s.is("[p0011 p9711] shut(0) count(5)", 1);
        s.is("[p0011 p0011 p0011 p0011 p0011 p0011 p0011] shut(6) count(5)", 64);
        s.is("[p0011 p0011 p0011 p0011 p0011 p0011 p0011] buried()", 63);
        s.is("[p0011 p0011 p0011 p0011 p0011 p0011 p0011] free(0)", 126);
        s.is("[p0033 p9711] {0: 2 -1} kinds(0, 0)", 32);
        s.is("[p0033 p9711] {0: 1 0 13 0} kinds(0, 0)", 1 | 8);
    }

    private void rowsAndTexts() {
        says("ROWS 0 .. 5 are rows of 0 to 40 ints, TEXTS 0 .. 3 rows of 0 to 60 bytes, or missing (at first).");
        for (int r = 0; r <= 5; r++) {
            s.refused("", "tear(" + r + ")", "NOTHING");
            s.is("row(" + r + ", 40) at(" + r + ", 39)", 1);
            s.is("row(" + r + ", 0) count(6)", 1);
        }
        for (int t = 0; t <= 3; t++) {
            s.refused("", "fault(" + t + ")", "NOTHING");
            s.is("text(" + t + ", 60) put(" + t + ", 59, 0)", 1032);
            s.is("text(" + t + ", 0) count(7)", 1);
        }
        s.is("row(0, 0) row(1, 1) row(2, 2) row(3, 3) row(4, 39) row(5, 40) count(6)", 6);
        s.is("text(0, 0) text(1, 1) text(2, 59) text(3, 60) count(7)", 4);
        s.told("{0: 1 2} {1: 3 4} {5: 5 6} lay(0, 1, 7) at(1, 1)", 1, 4);
        s.told("{0: 1 2} {1: 3 4} {5: 5 6} lay(0, 1, 7) at(5, 0)", 1, 5);
        s.is("text(0, 2) text(1, 2) put(0, 1, 65) put(1, 1, 0)", 1032);
    }

    /** PANE 0 COVERS these CELLS, and no others. */
    private void covered(String pane, int... cells) {
        for (int c = 0; c < 96; c++) {
            int want = 0;
            for (int one : cells) {
                want = one == c ? 1 : want;
            }
            s.is("[" + pane + " p0011] covers(0, " + c + ")", want);
        }
    }

    private void cells() {
        says("THE SCREEN has 12 COLUMNS (0 .. 11) and 8 LINES (0 .. 7)");
        s.told("[p9511 p0011] move(0, 2, 2) pane(0, 1)", 1, 11);
        s.told("[p9511 p0011] move(0, 2, 2) pane(0, 2)", 1, 7);
        s.refused("[p9511 p0011] move(0, 2, 2)", "move(0, 1, 0)", "STATE");
        s.refused("[p9511 p0011] move(0, 2, 2)", "move(0, 0, 1)", "STATE");
        s.told("[p0098 p3098] buried()", 0, 0);
        says("CELL c (0 .. 95) is in COLUMN c modulo 12, LINE c by 12, cut.");
        covered("p9031", 9, 10, 11);
        covered("p0111", 12);
        covered("p9012", 9, 21);
        covered("p9731", 93, 94, 95);
        covered("p0711", 84);
        covered("p9314", 45, 57, 69, 81);
        s.is("[p9031 p0111] seen(11)", 0);
        s.is("[p9031 p0111] seen(12)", 1);
        s.refused("[p0098 p3098]", "seen(96)", "BAD");
    }

    private void faultIs(String signs, int place) {
        if (place == NONE) {
            s.refused("'" + signs + "'", "fault(0)", "NONE");
            s.is("'" + signs + "' screen(0)", signs.replaceAll("[^a-z]", "").length());
        } else {
            s.is("'" + signs + "' fault(0)", place);
            s.refused("[p0022 p1122] keep(1) raise(0) '" + signs + "'", "screen(0)", "STATE");
        }
    }

    private void blanks() {
        says("A SCREEN (without PANES at first) is a TEXT: blanks (32) ahead, between, behind as many as wanted,"
                + " none within items");
        s.is("count(0)", 0);
        s.refused("", "pane(0, 0)", "BAD");
        faultIs("p0011f0011", NONE);
        faultIs(" ".repeat(50) + "p0011f0011", NONE);
        faultIs("p0011" + " ".repeat(50) + "f0011", NONE);
        faultIs("p0011f0011" + " ".repeat(50), NONE);
        faultIs("  p0011    f0011 ", NONE);
        faultIs("p 0011f0011", 1);
        faultIs("p0 011f0011", 2);
        faultIs("p00 11f0011", 3);
        faultIs("p001 1f0011", 4);
        faultIs("p0011f001 1", 9);
        s.is("text(0, 1) put(0, 0, 31) fault(0)", 0);
        s.is("text(0, 1) put(0, 0, 33) fault(0)", 0);
        s.is("text(0, 1) put(0, 0, 9) fault(0)", 0);
        s.is("text(0, 1) put(0, 0, 288) fault(0)", 1);
    }

    private void howManyPanes() {
        says("PANES (2 to 7; 0, 1, .. as they come)");
        faultIs("p0011", 5);
        faultIs("p0011p0011", NONE);
        faultIs(SEVEN, NONE);
        faultIs(SEVEN + "p0011", 35);
        s.told("[t1122 h3344] pane(0, 0)", 1, 3);
        s.told("[t1122 h3344] pane(1, 0)", 1, 4);
        s.told("[p0011p0011p0011p0011p0011p0011m4321] pane(6, 0)", 1, 5);
        s.told("[p0011p0011p0011p0011p0011p0011m4321] pane(6, 1)", 1, 4);
    }

    private void figures() {
        says("each a letter, its LEFT (COLUMN 0 .. 9), its TOP (LINE 0 .. 7), how WIDE (1 .. 9), how HIGH (1 .. 8;"
                + " one figure each), so that it lies wholly on THE SCREEN.");
        faultIs("p0011p9711", NONE);
        faultIs("p0711p9011", NONE);
        faultIs("p0098p3098", NONE);
        faultIs("p0018p9018", NONE);
        faultIs("p9038p9731", NONE);
        s.told("[p9731 p0011] pane(0, 1)", 1, 9);
        s.told("[p9731 p0011] pane(0, 2)", 1, 7);
        s.told("[p0098 p0011] pane(0, 3)", 1, 9);
        s.told("[p0098 p0011] pane(0, 4)", 1, 8);
        s.told("[p0098 p0011] pane(1, 3)", 1, 1);
        faultIs("p10111p0011", 5);
        says("the figure WIDE, HIGH by which it would not lie on it");
        for (int left = 0; left <= 9; left++) {
            int widest = Math.min(9, 12 - left);
            faultIs("p" + left + "0" + widest + "1p0011", NONE);
            if (widest < 9) {
                faultIs("p" + left + "0" + (widest + 1) + "1p0011", 3);
            }
        }
        for (int top = 0; top <= 7; top++) {
            faultIs("p0" + top + "1" + (8 - top) + "p0011", NONE);
            faultIs("p0" + top + "1" + (9 - top) + "p0011", 4);
        }
    }

    private void wrongSigns() {
        says("A FAULT is the first place at which it can't go on so (a letter, a figure that is none such");
        faultIs("x0011p0011", 0);
        faultIs("0p0011p0011", 0);
        faultIs("p0011x", 5);
        faultIs("p00111p0011", 5);
        faultIs("pp0011p0011", 1);
        faultIs("p/011p0011", 1);
        faultIs("p:011p0011", 1);
        faultIs("p0811p0011", 2);
        faultIs("p0/11p0011", 2);
        faultIs("p0001p0011", 3);
        faultIs("p00:1p0011", 3);
        faultIs("p0010p0011", 4);
        faultIs("p0019p0011", 4);
        faultIs("p001xp0011", 4);
        faultIs("p0811x", 2);
        faultIs("p0011p0091x", 10);
        faultIs("x9999 y", 0);
        s.is("[p0011p0011] put(0, 5, -1) fault(0)", 5);
        s.is("[p0011p0011] put(0, 6, -128) fault(0)", 6);
        s.is("[p0011p0011] put(0, 9, 0) fault(0)", 9);
        s.is("[p0011p0011] put(0, 9, 177) fault(0)", 9);
        s.is("[p0011p0011] put(0, 0, 368) fault(0)", NONE);
        says("an eighth PANE: its place");
        faultIs(SEVEN + "p0011", 35);
        faultIs(SEVEN + " ".repeat(24) + "p", 59);
        faultIs(" " + SEVEN + " p", 37);
        faultIs(SEVEN + "x", 35);
        faultIs(SEVEN + "  p99", 37);
    }

    private void endsTooEarly() {
        says("the TEXT's size, if its end comes too early, or there are less than 2 PANES, or blanks alone).");
        faultIs("", 0);
        faultIs(" ", 1);
        faultIs(" ".repeat(60), 60);
        faultIs("p", 1);
        faultIs("p0", 2);
        faultIs("p00", 3);
        faultIs("p001", 4);
        faultIs("p0011", 5);
        faultIs("   p0011   ", 11);
        faultIs("p0011p", 6);
        faultIs("p0011 p001", 10);
        faultIs("p0011" + " ".repeat(54) + "p", 60);
        faultIs("p0011" + " ".repeat(55), 60);
    }

    private void letters() {
        says("KINDS of PANES and letters: 0 PANE (p, 112), 1 FRAME (f, 102; a PANE), 2 GLASS (g, 103; a PANE),"
                + " 3 TOP (t, 116; a PANE), 4 HOOK (h, 104; a FRAME), 5 MIST (m, 109; GLASS).");
        String kinds = "pfgthm";
        for (int sign = -128; sign < 128; sign++) {
            int kind = sign < 0 ? -1 : kinds.indexOf((char) sign);
            if (kind >= 0) {
                s.told("'p0011p0011' put(0, 5, " + sign + ") screen(0) pane(1, 0)", 1, kind);
            } else {
                s.is("'p0011p0011' put(0, 5, " + sign + ") fault(0)", sign == ' ' ? 6 : 5);
            }
        }
    }

    private void panesAndFrames() {
        says("A PANE COVERS all CELLS of its box; a FRAME those in its first or last LINE or COLUMN alone;");
        covered("p4411", 52);
        covered("f0011", 0);
        covered("f0041", 0, 1, 2, 3);
        covered("f0013", 0, 12, 24);
        covered("f0022", 0, 1, 12, 13);
        covered("f0023", 0, 1, 12, 13, 24, 25);
        covered("f9533", 69, 70, 71, 81, 83, 93, 94, 95);
        s.told("[p0098 p9011] pane(0, 7)", 1, 72);
        s.told("[f0098 p9011] pane(0, 7)", 1, 30);
        says("a TOP one as a PANE;");
        covered("t4411", 52);
        covered("t9533", 69, 70, 71, 81, 82, 83, 93, 94, 95);
    }

    private void glass() {
        says("GLASS those alone whose COLUMN and LINE together are even;");
        covered("g0011", 0);
        covered("g1011");
        covered("g0111");
        covered("g1111", 13);
        covered("g9731", 93, 95);
        covered("g8731", 93);
        s.told("[g0098 p9011] pane(0, 7)", 1, 36);
        s.told("[g1033 p9711] pane(0, 7)", 1, 4);
        s.told("[g1033 p9711] move(0, 1, 0) pane(0, 7)", 1, 5);
    }

    private void hooksAndMist() {
        says("a HOOK of what a FRAME does those in its first LINE or COLUMN alone;");
        covered("h0011", 0);
        covered("h0041", 0, 1, 2, 3);
        covered("h0013", 0, 12, 24);
        covered("h0022", 0, 1, 12);
        covered("h9533", 69, 70, 71, 81, 93);
        says("MIST of what GLASS does those that are in none of its first, last LINES and COLUMNS.");
        covered("m0011");
        covered("m0028");
        covered("m0092");
        covered("m0033", 13);
        covered("m1033");
        covered("m0053", 13, 15);
        covered("m9533", 82);
        s.told("[m0098 p9011] pane(0, 7)", 1, 21);
    }

    private void order() {
        says("At first each PANE lies over those that come ahead of it, all are OPEN.");
        s.is("[p0011 p0011 p0011 p0011 p0011 p0011 p0011] seen(0)", 6);
        s.told("[p0011 p0011 p0011] pane(0, 5)", 1, 0);
        s.told("[p0011 p0011 p0011] pane(2, 5)", 1, 2);
        s.is("[p0011 p0011 p0011] count(1)", 3);
        says("for what is SEEN each TOP one counts as over all that are not (TOP ones among one another by THE ORDER).");
        s.is("[t0011 p0011] seen(0)", 0);
        s.is("[t0011 p0011 p0011 p0011 p0011 p0011 p0011] seen(0)", 0);
        s.told("[t0011 p0011] pane(0, 5)", 1, 0);
        s.is("[p0011 t0011] sink(1) seen(0)", 1);
        s.is("[t0011 t0011 p0011] seen(0)", 1);
        s.is("[t0011 t0011 p0011] raise(0) seen(0)", 0);
        s.is("[t0011 p0011 t0011] sink(2) seen(0)", 0);
        says("At a CELL the uppermost OPEN PANE that COVERS it is SEEN (none: none).");
        s.is("[p0011 g0022 f0033 p9711] seen(0)", 2);
        s.is("[p1111 g0022 f0033 p9711] seen(13)", 1);
        s.is("[p0033 g0033 f0033 p9711] seen(13)", 1);
        s.is("[p0033 g1133 f0033 p9711] shut(1) seen(13)", 0);
        s.is("[t0011 p0011] shut(0) seen(0)", 1);
        s.refused("[t0011 p0011] shut(0) shut(1)", "seen(0)", "NONE");
        s.refused("[m0011 f0033]", "seen(13)", "NONE");
    }

    private void deeds() {
        says("a PANE is RAISED to the end of THE ORDER, LOWERED to its beginning, MOVED by so many COLUMNS and LINES"
                + " (-3 .. 3 each, wholly on THE SCREEN), SHUT, or OPENED, if it is SHUT.");
        s.told("[p0011 p0011 p0011 p0011 p0011 p0011 p0011] raise(0) pane(0, 5)", 1, 6);
        s.told("[p0011 p0011 p0011 p0011 p0011 p0011 p0011] raise(0) pane(1, 5)", 1, 0);
        s.told("[p0011 p0011 p0011 p0011 p0011 p0011 p0011] sink(6) pane(6, 5)", 1, 0);
        s.told("[p0011 p0011 p0011 p0011 p0011 p0011 p0011] sink(6) pane(5, 5)", 1, 6);
        s.told("[p0011 p0011 p0011] raise(1) pane(0, 5)", 1, 0);
        s.told("[p0011 p0011 p0011] sink(1) pane(2, 5)", 1, 2);
        s.is("[p3322 p0011] move(0, -3, -3)", 0);
        s.is("[p3322 p0011] move(0, 3, 3)", 78);
        s.told("[p3322 p0011] shut(0) pane(0, 6)", 1, 0);
        s.told("[p3322 p0011] 2x shut(0) pane(0, 6)", 1, 1);
        says("These are DEEDS (40 at most).");
        s.is("[p0022 p1122] 40x shut(0) count(2)", 40);
        s.is("[p0022 p1122] 39x shut(0) raise(0)", 0);
        s.is("[p0022 p1122] 41x shut(0) count(2)", 40);
        s.refused("[p0022 p1122] 40x shut(0)", "raise(0)", "FULL");
        s.refused("[p0022 p1122] 40x shut(0)", "sink(1)", "FULL");
        s.refused("[p0022 p1122] 40x shut(0)", "move(0, 1, 1)", "FULL");
        s.refused("[p0022 p1122] 40x shut(0)", "shut(1)", "FULL");
        s.refused("[p0022 p1122] 40x shut(0)", "lots(1, 1)", "FULL");
        s.is("[p0022 p1122] 40x shut(0) undo(39) raise(0)", 0);
    }

    private void aside() {
        String three = "[p0022 p1122 p0033] keep(1) shut(1) raise(0)";
        says("---- 4 what to do (aside).");
        s.aside(three, "free(2)", 1);
        s.aside(three, "shift(2)", 35);
        s.alike(three + " order(3)", three + " {3: 1 2 0}");
    }

    private void pairs() {
        says("(a ROW of pairs: a CELL, who was SEEN there, -1 nobody).");
        s.is("[p0011 p9711] row(0, 0) kinds(0, 0)", 63);
        s.is("[p0011 p9711] {0: 0 0} kinds(0, 0)", 31);
        s.is("[p0011 p9711] {0: 0 -1} kinds(0, 0)", 32);
        s.is("[p0011 p9711] {0: 93 1} kinds(0, 0)", 63);
        s.is("[p0011 p9711] {0: 95 -1} kinds(0, 0)", 63);
        s.is("[p0011 p9711] row(0, 40) kinds(0, 0)", 31);
        s.is("[p0011 p9711] row(0, 40) lay(0, 39, -1) kinds(0, 0)", 0);
    }
}
