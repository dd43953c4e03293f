/** The boundary cases of promises 22 to 30: what is seen, what to do, which pane it is. */
final class SightCases {
    private static final String SEVEN = "[p0011 p0011 p0011 p0011 p0011 p0011 p0011]";
    private static final String CHANGED = " raise(0) keep(1) shut(1)";
    private final Sentences s;

    SightCases(Sentences s) {
        this.s = s;
    }

    void all() {
        seen();
        buried();
        both();
        free();
        shift();
        shiftRefused();
        order();
        orderRefused();
        kinds();
        places();
        test();
    }

    private void seen() {
        s.sentence(22, "Which PANE is SEEN at a CELL; how many OPEN ones COVER it by asked().");
        s.told("[p0011 p9711] seen(0)", 0, 1);
        s.told("[p0011 p9731] seen(95)", 1, 1);
        s.told(SEVEN + " seen(0)", 6, 7);
        s.told(SEVEN + " shut(6) seen(0)", 5, 6);
        s.told(SEVEN + " shut(0) seen(0)", 6, 6);
        s.told("[t0011 p0011 g0011 m0011] seen(0)", 0, 3);
        s.told("[p0098 p3098] seen(47)", 1, 1);
        s.told("[p0098 p3098] seen(48)", 0, 1);
        s.sentence(22, "NONE: none.");
        s.refused("", "seen(0)", "NONE");
        s.refused("[p0011 p9711] seen(0)", "seen(1)", "NONE");
        s.refused("[p0011 p9711] shut(0) seen(93)", "seen(0)", "NONE");
        s.refused("[g0022 p9711] seen(0)", "seen(1)", "NONE");
        s.sentence(22, "BAD.");
        s.bounds("", "seen(#)", 0, 95);
        s.bounds("[p0098 p3098]", "seen(#)", 0, 95);
    }

    private void buried() {
        s.sentence(23, "PANES (bits; OPEN ones) of which no CELL is SEEN; how many CELLS show none at all by asked().");
        s.told("buried()", 0, 96);
        s.told("[p0011 p9711] buried()", 0, 94);
        s.told("[p0098 p3098] buried()", 0, 0);
        s.told(SEVEN + " buried()", 63, 95);
        s.told("[t0098 p0011 p0011 p0011 p0011 p0011 p0011] buried()", 126, 24);
        s.told("[p0011 p0011] shut(0) buried()", 0, 95);
        s.told("[p0011 p0011] shut(0) shut(1) buried()", 0, 96);
        s.told("[m0011 m0022] buried()", 3, 96);
        s.told("[m0011 m0022] shut(0) buried()", 2, 96);
        s.told("[p0033 f0033 p1111] buried()", 1, 87);
        s.told("[p0033 f0033 p9711] buried()", 0, 86);
    }

    private void both() {
        s.sentence(24, "In how many CELLS two PANES, OPEN or not, both COVER; which of both is over the other one by asked().");
        s.told("[p0011 p9711] both(0, 1)", 0, 1);
        s.told("[p0098 p0098] both(0, 1)", 72, 1);
        s.told("[p0098 p0098] both(1, 0)", 72, 1);
        s.told("[p0098 p3098] both(0, 1)", 48, 1);
        s.told("[p0411 p0411] both(0, 1)", 1, 1);
        s.told("[p0011 p0411] both(0, 1)", 0, 1);
        s.told("[p0411 p0011] both(0, 1)", 0, 1);
        s.told("[p0098 p0098] raise(0) both(0, 1)", 72, 0);
        s.told("[p0022 p1122] shut(0) shut(1) both(0, 1)", 1, 1);
        s.told("[t0022 p1122] both(0, 1)", 1, 0);
        s.told("[t0022 p1122] shut(0) both(0, 1)", 1, 0);
        s.told("[t0022 t1122] both(0, 1)", 1, 1);
        s.told("[t0022 t1122] raise(0) both(1, 0)", 1, 0);
        s.told("[m0022 p0022] both(0, 1)", 0, 1);
        s.told("[p0011 p0011 p0011 p0011 p0011 p0011 p0011] both(0, 6)", 1, 6);
        s.sentence(24, "BAD: also alike.");
        s.refused("[p0011 p0011]", "both(0, 0)", "BAD");
        s.refused("[p0011 p0011]", "both(1, 1)", "BAD");
        s.bounds("[p0011 p0011 p0011] both(0, 2)", "both(#, 1)", 0, 2);
        s.bounds("[p0011 p0011 p0011] both(0, 2)", "both(1, #)", 0, 2);
        s.refused("[p0011 p0011]", "both(2, 2)", "BAD");
        s.refused("", "both(0, 1)", "BAD");
    }

    private void free() {
        s.sentence(25, "Who (bits; OPEN ones) is to be SHUT so that each CELL that a PANE COVERS shows it;"
                + " how many by asked().");
        s.told(SEVEN + " free(6)", 0, 0);
        s.told(SEVEN + " free(0)", 126, 6);
        s.told(SEVEN + " raise(0) free(0)", 0, 0);
        s.told("[p0011 p0011 p0011 p0011 p0011 p0011 t0011] raise(0) free(0)", 64, 1);
        s.told("[p0011 p0011 p0011] shut(1) free(0)", 4, 1);
        s.told("[p0011 p0011 p0011] shut(1) shut(2) free(0)", 0, 0);
        s.told("[t0011 p0011] free(0)", 0, 0);
        s.told("[t0011 p0011] free(1)", 1, 1);
        s.told("[t0011 t0011] free(0)", 2, 1);
        s.told("[m0022 p0022] free(0)", 0, 0);
        s.told("[p1111 f0033] free(0)", 0, 0);
        s.told("[p0022 m0022] free(0)", 0, 0);
        s.aside("[p0011 p0011 p0011]" + CHANGED, "free(0)", 0);
        s.sentence(25, "BAD; STATE: it is SHUT.");
        s.bounds("[p0011 p0011 p0011]", "free(#)", 0, 2);
        s.refused("", "free(0)", "BAD");
        s.refused("[p0011 p0011] shut(0)", "free(0)", "STATE");
        s.refused("[p0011 p0011] free(0) shut(1)", "free(1)", "STATE");
    }

    private void shift() {
        s.sentence(26, "By how many COLUMNS and LINES (-3 .. 3 each; 0, 0, too) a PANE is to be MOVED so that most CELLS"
                + " show it: 10 times (3 and the COLUMNS), and 3 and the LINES, of several the first (COLUMNS rising,"
                + " then LINES); how many by asked().");
        s.told("[p4411 p9711] shift(0)", 0, 1);
        s.told("[p0011 p9711] shift(0)", 33, 1);
        s.told("[p1111 p9711] shift(0)", 22, 1);
        s.told("[p0711 p9011] shift(0)", 30, 1);
        s.told("[p0098 p9711] shift(0)", 33, 72);
        s.told("[p0098 p0018] shift(0)", 43, 72);
        s.told("[p0098 p0098] shift(0)", 63, 24);
        s.told("[p0022 p0044] shift(0)", 66, 3);
        s.told("[p9622 p8444] move(0, 1, 0) shift(0)", 0, 3);
        s.told("[p9622 p6444] shift(0)", 40, 4);
        s.told("[p0011 p0098] shift(0)", 33, 0);
        s.told("[p0011 p0098] shift(1)", 33, 72);
        s.told("[p0032 p0032] shift(0)", 35, 6);
        s.told("[p0032 t0098] shift(0)", 33, 0);
        s.told("[m0022 p9711] shift(0)", 33, 0);
        s.told("[g1011 p9711] shift(0)", 23, 1);
        s.told("[p0011 p0098] shut(1) shift(0)", 33, 1);
        s.told("[p9311 p9711] move(0, 2, 0) shift(0)", 0, 1);
        s.aside("[p0022 p0044]" + CHANGED, "shift(0)", 33);
        s.aside("[p0022 p0044]", "shift(0)", 66);
    }

    private void shiftRefused() {
        s.sentence(26, "BAD; STATE: it is SHUT.");
        s.bounds("[p0011 p0011 p0011]", "shift(#)", 0, 2);
        s.refused("", "shift(0)", "BAD");
        s.refused("[p0011 p0011] shut(0)", "shift(0)", "STATE");
        s.refused("[p0011 p0011] shift(0) shut(1)", "shift(1)", "STATE");
        s.told("[p0011 p0011] 40x shut(0) shift(0)", 34, 1);
    }

    private void order() {
        s.sentence(27, "THE ORDER by which most PANES are SEEN at a CELL at least, of several the first (by the lowest one"
                + " rising, then the next, ..), comes to a ROW (anew): how many are.");
        s.is("[p0011 p9711] order(0)", 2);
        s.alike("[p0011 p9711] order(5)", "[p0011 p9711] {5: 0 1}");
        s.alike("[p0011 p0011] order(0)", "[p0011 p0011] {0: 0 1}");
        s.is("[p0011 p0011] order(0)", 1);
        s.is(SEVEN + " order(0)", 1);
        s.alike(SEVEN + " order(0)", SEVEN + " {0: 0 1 2 3 4 5 6}");
        s.alike("[p0011 p0021] order(0)", "[p0011 p0021] {0: 1 0}");
        s.is("[p0011 p0021 p0031 p0041 p0051 p0061 p0071] order(0)", 7);
        s.alike("[p0011 p0021 p0031 p0041 p0051 p0061 p0071] order(0)",
                "[p0011 p0021 p0031 p0041 p0051 p0061 p0071] {0: 6 5 4 3 2 1 0}");
        s.is("[m0011 m0022] order(0)", 0);
        s.alike("[m0011 m0022] order(0)", "[m0011 m0022] {0: 0 1}");
        s.is("[t0011 p0011] order(0)", 1);
        s.alike("[t0011 p0011] order(0)", "[t0011 p0011] {0: 0 1}");
        s.is("[p0011 p0021] shut(0) shut(1) order(0)", 0);
        s.alike("[p0011 p0021] shut(0) order(0)", "[p0011 p0021] shut(0) {0: 0 1}");
        s.alike("[p0011 p0021] raise(0) order(0)", "[p0011 p0021] raise(0) {0: 1 0}");
        s.alike("[p0011 p9711] {2: 7 7 7 7 7 7 7 7} order(2)", "[p0011 p9711] {2: 0 1}");
        s.alike("[p0011 p9711] row(2, 0) order(2)", "[p0011 p9711] {2: 0 1}");
        s.is("[p0011 p9711] 40x shut(0) order(2)", 2);
    }

    private void orderRefused() {
        s.sentence(27, "BAD; STATE: no PANES.");
        s.bounds("[p0011 p0011]", "order(#)", 0, 5);
        s.refused("{0: 7 8}", "order(0)", "STATE");
        s.refused("", "order(5)", "STATE");
        s.refused("", "order(6)", "BAD");
    }

    /** What kinds(), places(), test() share, on three PANES. */
    private void sightsRefused(String call) {
        String three = "[p0022 p1122 p2222]" + CHANGED + " seen(0) ";
        String of0 = call + "(0, 3)";
        s.bounds("[p0011 p0011 p0011] row(3, 0)", call + "(#, 3)", 0, 2);
        s.bounds("[p0011 p0011 p0011] row(0, 0) row(5, 0)", call + "(0, #)", 0, 5);
        s.refused("row(3, 0)", of0, "BAD");
        s.refused("{3: 96}", of0, "BAD");
        s.refused(three, of0, "NOTHING");
        s.refused(three + "row(3, 2) tear(3)", of0, "NOTHING");
        s.refused(three + "{3: 0}", of0, "SIZE");
        s.refused(three + "{3: 0 0 0}", of0, "SIZE");
        s.refused(three + "row(3, 39)", of0, "SIZE");
        s.refused(three + "{3: 96 0 0}", of0, "SIZE");
        s.refused(three + "{3: 96 0}", of0, "UNLIKE");
        s.refused(three + "{3: -1 0}", of0, "UNLIKE");
        s.refused(three + "{3: 0 3}", of0, "UNLIKE");
        s.refused(three + "{3: 0 -2}", of0, "UNLIKE");
        s.refused(three + "{3: MOST 0}", of0, "UNLIKE");
        s.refused(three + "{3: LEAST 0}", of0, "UNLIKE");
        s.refused(three + "{3: 0 MOST}", of0, "UNLIKE");
        s.refused(three + "{3: 0 LEAST}", of0, "UNLIKE");
        s.refused(three + "row(3, 40) lay(3, 39, 3)", of0, "UNLIKE");
        s.refused(three + "row(3, 40) lay(3, 38, 96)", of0, "UNLIKE");
        s.refused(three + "{3: 0 1 0 2 96 0}", of0, "UNLIKE");
        s.refused(SEVEN + " {3: 0 7}", of0, "UNLIKE");
    }

    private void kinds() {
        s.sentence(28, "KINDS (bits) that a PANE can be of (all else as it is).");
        s.is("[p0033 p9711] row(0, 0) kinds(0, 0)", 63);
        s.is("[p0033 p9711] {0: 0 1} kinds(0, 0)", 0);
        s.is("[p0033 p9711] {0: 0 0 0 -1} kinds(0, 0)", 0);
        s.is("[p0033 p9731] {0: 95 1 0 0} kinds(0, 0)", 31);
        s.is("[p0033 p9711] {0: 13 -1} kinds(0, 0)", 2 | 16);
        s.is("[p0011 p0011] {0: 0 0} kinds(0, 0)", 8);
        s.is("[p0011 t0011] {0: 0 0} kinds(0, 0)", 0);
        s.is("[p0011 t0011] raise(0) {0: 0 0} kinds(0, 0)", 8);
        s.is("[p0033 p9711] shut(0) {0: 0 -1} kinds(0, 0)", 63);
        s.is("[p0033 p9711] shut(0) {0: 0 0} kinds(0, 0)", 0);
        s.is(SEVEN + " {0: 0 6} kinds(6, 0)", 31);
        s.is("[p0033 p9711] row(0, 40) lay(0, 38, 1) kinds(0, 0)", 1 | 2 | 8 | 16);
        s.is("[m0011 p9711] row(0, 40) kinds(0, 0)", 31);
        s.aside("[p0033 p0022]" + CHANGED + " {0: 0 0}", "kinds(0, 0)", 31);
        s.sentence(28, "BAD; NOTHING; SIZE: not by pairs; UNLIKE: a number that is none. (In this order.)");
        sightsRefused("kinds");
    }

    private void places() {
        s.sentence(29, "At how many CELLS its left, upper end can be (wholly on THE SCREEN; all else as it is);"
                + " the lowest by asked().");
        s.told("[p0011 p9711] row(0, 0) places(0, 0)", 96, 0);
        s.told("[p0098 p9711] row(0, 0) places(0, 0)", 4, 0);
        s.told("[p0098 p9711] {0: 95 0} shut(1) places(0, 0)", 1, 3);
        s.told("[p0011 p9711] {0: 95 0} places(0, 0)", 1, 95);
        s.told("[p0011 p9711] {0: 0 0} places(0, 0)", 1, 0);
        s.told("[p0011 p9711] {0: 0 -1} places(0, 0)", 95, 1);
        s.told("[p0022 p9711] {0: 95 0} places(0, 0)", 1, 82);
        s.told("[p0022 p9711] row(0, 0) places(0, 0)", 77, 0);
        s.told("[p0018 p9711] row(0, 0) places(0, 0)", 12, 0);
        s.told("[p0091 p9711] row(0, 0) places(0, 0)", 32, 0);
        s.told("[p0011 p9711] shut(0) {0: 5 -1} places(0, 0)", 96, 0);
        s.aside("[p0022 p0033]" + CHANGED + " {0: 0 0}", "places(0, 0)", 1);
        s.sentence(29, "NONE: at none.");
        s.refused("[p0011 p9711] {0: 93 0} at(0, 0)", "places(0, 0)", "NONE");
        s.refused("[p0011 p9711] {0: 0 0 1 0} at(0, 0)", "places(0, 0)", "NONE");
        s.refused("[p0011 p9711] shut(0) {0: 0 0} at(0, 0)", "places(0, 0)", "NONE");
        s.refused("[m0022 p9711] {0: 0 0} at(0, 0)", "places(0, 0)", "NONE");
        s.sentence(29, "BAD; NOTHING; SIZE; UNLIKE. (In this order.)");
        sightsRefused("places");
    }

    private void test() {
        s.sentence(30, "The CELL to look at by which these KINDS are told apart best: the greatest part of those by which"
                + " the same is SEEN there is least (the first); that part by asked().");
        s.told("[p0011 p9711] row(0, 0) test(0, 0)", 0, 5);
        s.told("[p9711 p0011] move(0, 2, 0) row(0, 0) test(0, 0)", 95, 5);
        s.told("[p9731 p0011] row(0, 0) test(0, 0)", 94, 4);
        s.told("[p0041 p9711] row(0, 0) test(0, 0)", 1, 4);
        s.told("[p0055 p9711] row(0, 0) test(0, 0)", 16, 3);
        s.told("[p0033 p9711] {0: 2 -1} test(0, 0)", 0, 1);
        s.told("[p0033 p9711] {0: 1 0 13 0} test(0, 0)", 0, 2);
        s.told("[p0011 p0011] row(0, 0) test(1, 0)", 0, 5);
        s.told("[p0011 t0011] row(0, 0) test(0, 0)", 0, 6);
        s.told("[p0011 p9711] shut(0) row(0, 0) test(0, 0)", 0, 6);
        s.told(SEVEN + " row(0, 0) test(6, 0)", 0, 5);
        s.told(SEVEN + " row(0, 0) 3x test(6, 0)", 0, 5);
        s.told("[p0055 p9711] row(0, 0) 3x test(0, 0)", 16, 3);
        s.told("[p0055 p9711] row(0, 0) 3x test(1, 0) test(0, 0)", 16, 3);
        s.aside("[p0055 p9711]" + CHANGED + " row(0, 0)", "test(0, 0)", 16);
        s.sentence(30, "NONE: there is no KIND.");
        s.refused("[p0011 p9711] {0: 0 1} at(0, 0)", "test(0, 0)", "NONE");
        s.refused("[p0011 p9711] {0: 0 0 0 -1} at(0, 1)", "test(0, 0)", "NONE");
        s.refused("[p0011 p9711] shut(0) {0: 0 0} at(0, 0)", "test(0, 0)", "NONE");
        s.sentence(30, "BAD; NOTHING; SIZE; UNLIKE. (In this order.)");
        sightsRefused("test");
    }
}
