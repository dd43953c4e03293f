import java.math.BigInteger;

/** The boundary cases of promises 31 to 34: turns, chances, lots. */
final class ChanceCases {
    private static final String SEVEN = "[p0011 p0011 p0011 p0011 p0011 p0011 p0011]";
    private static final String LARGE = "[p0098 p0098 p0098 p0098 p0098 p0098 p0098]";
    private static final String APART = "[p3311 p4411]";
    private static final String CHANGED = " raise(0) keep(1) shut(1)";
    private static final int GREATEST_LOT = 2147483646;
    private final Sentences s;

    ChanceCases(Sentences s) {
        this.s = s;
    }

    void all() {
        duel();
        duelRefused();
        odds();
        mid();
        lotsOfEach();
        lotsOfNothing();
        lotsOneAfterAnother();
        lotsRefused();
    }

    private void duel() {
        s.sentence(31, "By n (0 .. 4) turns in all one RAISES a PANE (also the last one), then another one does: of how many"
                + " CELLS PANE i is SEEN then, the first wanting it much, the other one little.");
        int[] lowest = {0, 1, 0, 1, 0};
        int[] last = {1, 1, 0, 1, 0};
        for (int n = 0; n <= 4; n++) {
            s.is("[p0011 p0011] duel(0, " + n + ")", lowest[n]);
            s.is("[p0011 p0011] duel(1, " + n + ")", last[n]);
            s.is(SEVEN + " duel(0, " + n + ")", lowest[n]);
            s.is(SEVEN + " duel(6, " + n + ")", last[n]);
            s.is(LARGE + " duel(0, " + n + ")", 72 * lowest[n]);
            s.is("[t0011 p0011] duel(0, " + n + ")", 1);
            s.is("[t0011 p0011] duel(1, " + n + ")", 0);
            s.is("[t0011 t0011] duel(0, " + n + ")", lowest[n]);
            s.is("[p0011 p9711] duel(0, " + n + ")", 1);
            s.is("[p0011 p0011] shut(0) duel(0, " + n + ")", 0);
            s.is("[p0011 p0011] shut(1) duel(0, " + n + ")", 1);
            s.is("[m0011 p0011] duel(0, " + n + ")", 0);
        }
        s.is("[p0031 p0011 p1021] duel(0, 0)", 0);
        s.is("[p0031 p0011 p1021] duel(0, 1)", 3);
        s.is("[p0031 p0011 p1021] duel(0, 2)", 1);
        s.is("[p0031 p0011 p1021] duel(0, 4)", 1);
        s.is("[p0011 p0011] 40x shut(0) duel(0, 1)", 1);
        s.aside("[p0011 p0011 p0011]" + CHANGED, "duel(0, 4)", 0);
    }

    private void duelRefused() {
        s.sentence(31, "BAD.");
        s.bounds("[p0011 p0011]", "duel(0, #)", 0, 4);
        s.bounds("[p0011 p0011]", "duel(#, 4)", 0, 1);
        s.refused("", "duel(0, 0)", "BAD");
    }

    private void odds() {
        s.sentence(32, "Chances that each CELL that a PANE COVERS shows it, if each other OPEN one is SHUT by p (0 .. 12)"
                + " of 12, each by itself: 1.");
        s.chance("[p0011 p0011] odds(1, 0)", 1, 1);
        s.chance("[p0011 p0011] odds(0, 0)", 0, 1);
        s.chance("[p0011 p0011] odds(0, 1)", 1, 12);
        s.chance("[p0011 p0011] odds(0, 11)", 11, 12);
        s.chance("[p0011 p0011] odds(0, 12)", 1, 1);
        s.chance(SEVEN + " odds(0, 6)", 1, 64);
        s.chance(SEVEN + " odds(0, 5)", 15625, 2985984);
        s.chance(SEVEN + " odds(6, 5)", 1, 1);
        s.chance("[p0011 p0011 p0011] shut(1) odds(0, 6)", 1, 2);
        s.chance("[p0011 p9711] odds(0, 0)", 1, 1);
        s.chance("[m0011 p0011] odds(0, 0)", 1, 1);
        s.chance("[p0011 m0011] odds(0, 0)", 1, 1);
        s.chance("[t0011 p0011] odds(0, 0)", 1, 1);
        s.chance("[t0011 p0011] odds(1, 4)", 1, 3);
        s.aside("[p0011 p0011 p0011]" + CHANGED, "odds(2, 5)", 1);
        s.sentence(32, "BAD; STATE: it is SHUT.");
        chanceRefused("odds");
    }

    private void mid() {
        s.sentence(33, "The mean of how many CELLS show it then: 1.");
        s.chance("[p0011 p0011] mid(1, 0)", 1, 1);
        s.chance("[p0011 p0011] mid(0, 0)", 0, 1);
        s.chance("[p0011 p0011] mid(0, 12)", 1, 1);
        s.chance("[p0022 p0011] mid(0, 1)", 37, 12);
        s.chance(LARGE + " mid(0, 0)", 0, 1);
        s.chance(LARGE + " mid(0, 1)", 1, 41472);
        s.chance(LARGE + " mid(0, 11)", 1771561, 41472);
        s.chance(LARGE + " mid(0, 12)", 72, 1);
        s.chance(LARGE + " mid(6, 0)", 72, 1);
        s.chance("[p0098 p3098] mid(0, 6)", 48, 1);
        s.chance("[p0011 p0011 p0011] shut(1) mid(0, 6)", 1, 2);
        s.chance("[m0011 p0011] mid(0, 6)", 0, 1);
        s.chance("[t0011 p0011] mid(1, 4)", 1, 3);
        s.aside("[p0011 p0011 p0011]" + CHANGED, "mid(2, 5)", 1);
        s.sentence(33, "BAD; STATE: it is SHUT.");
        chanceRefused("mid");
    }

    private void chanceRefused(String call) {
        s.bounds("[p0011 p0011] odds(0, 7)", call + "(0, #)", 0, 12);
        s.bounds("[p0011 p0011] odds(0, 7)", call + "(#, 5)", 0, 1);
        s.refused("", call + "(0, 0)", "BAD");
        s.refused("[p0011 p0011] odds(0, 7) shut(1)", call + "(1, 0)", "STATE");
        s.refused("[p0011 p0011] odds(0, 7) shut(1)", call + "(1, 12)", "STATE");
        s.refused("[p0011 p0011] odds(0, 7) shut(1)", call + "(1, 13)", "BAD");
        s.refused("[p0011 p0011] odds(0, 7) shut(1)", call + "(2, 1)", "BAD");
    }

    /** One DEED, by a seed from which this number comes. */
    private static String lot(int number) {
        BigInteger modulus = BigInteger.valueOf(2147483647L);
        BigInteger seed = BigInteger.valueOf(48271).modInverse(modulus).multiply(BigInteger.valueOf(number)).mod(modulus);
        return " lots(1, " + seed + ")";
    }

    private void lotsOfEach() {
        s.sentence(34, "PANE it by 8, cut, modulo how many there are; if it modulo 4 is 0, it is RAISED; if it is 1, LOWERED;"
                + " if it is 2, MOVED by (it by 128, cut, modulo 7) less 3 COLUMNS, (it by 1024, cut, modulo 7) less 3"
                + " LINES; if it is 3, SHUT, or OPENED;");
        s.alike(APART + lot(16), APART + " raise(0)");
        s.alike(APART + lot(4), APART + " raise(0)");
        s.alike(APART + lot(9), APART + " sink(1)");
        s.alike(APART + lot(13), APART + " sink(1)");
        s.alike(APART + lot(2), APART + " move(0, -3, -3)");
        s.alike(APART + lot(130), APART + " move(0, -2, -3)");
        s.alike(APART + lot(6 * 128 + 2), APART + " move(0, 3, -3)");
        s.alike(APART + lot(7 * 128 + 2), APART + " move(0, -3, -3)");
        s.alike(APART + lot(1022), APART + " move(1, -3, -3)");
        s.alike(APART + lot(2046), APART + " move(1, -2, -2)");
        s.alike(APART + lot(1024 + 2), APART + " move(0, -2, -2)");
        s.alike(APART + lot(6 * 1024 + 2), APART + " move(0, 3, 3)");
        s.alike(APART + lot(7 * 1024 + 2), APART + " move(0, -3, -3)");
        s.alike(APART + lot(3), APART + " shut(0)");
        s.alike(APART + lot(7), APART + " shut(0)");
        s.alike(APART + lot(11), APART + " shut(1)");
        s.alike(APART + " shut(0)" + lot(3), APART + " 2x shut(0)");
        s.alike(APART + lot(GREATEST_LOT), APART + " move(1, -3, -3)");
        s.alike(APART + lot(GREATEST_LOT - 2), APART + lot(8));
        s.alike(SEVEN + lot(8 * 6 + 3), SEVEN + " shut(6)");
        s.alike(SEVEN + lot(8 * 7 + 3), SEVEN + " shut(0)");
        s.alike(SEVEN + lot(8 * 13 + 1), SEVEN + " sink(6)");
        s.alike("[p0011 p0011 p0011]" + lot(8 * 5 + 3), "[p0011 p0011 p0011] shut(2)");
    }

    /** A DEED of nothing: all is as it was, but there is one more, and it is undone as one. */
    private void nothing(String before, int number) {
        for (int i = 0; i < 2; i++) {
            for (int what = 0; what <= 7; what++) {
                String pane = " pane(" + i + ", " + what + ")";
                s.told(before + lot(number) + pane, 1, new Run(before + pane).go("asked()"));
            }
        }
        s.is(before + lot(number) + " count(2)", new Run(before).go("count(2)") + 1);
        s.is(before + lot(number) + " undo(0)", new Run(before).go("count(2)") + 1);
        s.alike(before + lot(number) + " undo(0)", before + " undo(0)");
    }

    private void lotsOfNothing() {
        s.sentence(34, "each if it can be (else a DEED of nothing)");
        nothing(APART, 8);
        nothing(APART + " raise(0)", 16);
        nothing(APART, 1);
        nothing(APART + " sink(1)", 9);
        nothing(APART, 3 * 1024 + 2);
        nothing("[p2311 p4411]", 2);
        nothing("[p3211 p4411]", 2);
        nothing("[p9411 p0011]", 6 * 1024 + 2);
        nothing("[p3511 p0011]", 6 * 1024 + 2);
        nothing("[p0098 p0011]", 6 * 1024 + 2);
        s.is(APART + " 39x shut(0)" + lot(8) + " count(2)", 40);
        s.refused(APART + " 40x shut(0)", lot(8), "FULL");
    }

    private void lotsOneAfterAnother() {
        s.sentence(34, "n (1 .. 20) DEEDS truly by LOTS of a seed: a number comes from the one ahead by 48271 times it"
                + " modulo 2147483647, the first from the seed (1 .. 2147483646)");
        s.alike(APART + " lots(1, 1)", APART + " shut(1)");
        s.alike(APART + " lots(2, 1)", APART + " shut(1) move(0, -3, -3)");
        s.alike(APART + " lots(2, 1)", APART + " lots(1, 1) lots(1, 48271)");
        s.alike(APART + " lots(1, 2147483646)", APART + " raise(0)");
        s.alike(APART + " lots(2, 2147483646)", APART + " lots(1, 2147483646) lots(1, 2147435376)");
        s.is(APART + " lots(1, 5) count(2)", 1);
        s.is(APART + " lots(20, 5) count(2)", 20);
        s.is(APART + " 20x lots(1, 5) count(2)", 20);
        s.sentence(34, "how many PANES are SEEN.");
        s.is(APART + lot(8), 2);
        s.is(APART + lot(3), 1);
        s.is(APART + " shut(0)" + lot(11), 0);
        s.is("[p0011 p0011]" + lot(16), 1);
        s.is(SEVEN + lot(8 * 6), 1);
        s.is("[p0011 p0021 p0031 p0041 p0051 p0061 p0071]" + lot(8 * 6), 1);
        s.is("[p0071 p0061 p0051 p0041 p0031 p0021 p0011]" + lot(8 * 6), 7);
    }

    private void lotsRefused() {
        s.sentence(34, "BAD; STATE: no PANES; FULL: with n more there would be more than 40 DEEDS. (FULL last.)");
        s.bounds(APART, "lots(#, 1)", 1, 20);
        s.bounds(APART, "lots(1, #)", 1, 2147483646);
        s.refused("", "lots(1, 1)", "STATE");
        s.refused("", "lots(20, 2147483646)", "STATE");
        s.refused("", "lots(0, 1)", "BAD");
        s.refused("", "lots(1, MOST)", "BAD");
        s.refused(APART + " 40x shut(0)", "lots(1, 1)", "FULL");
        s.refused(APART + " 39x shut(0)", "lots(2, 1)", "FULL");
        s.refused(APART + " 21x shut(0)", "lots(20, 1)", "FULL");
        s.refused(APART + " 40x shut(0)", "lots(21, 1)", "BAD");
        s.refused(APART + " 40x shut(0)", "lots(1, 0)", "BAD");
        s.is(APART + " 20x shut(0) lots(20, 1) count(2)", 40);
        s.is(APART + " 39x shut(0) lots(1, 1) count(2)", 40);
    }
}
