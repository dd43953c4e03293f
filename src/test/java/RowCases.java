/** The boundary cases of promises 1 to 9: a new object, rows, texts. */
final class RowCases {
    private static final String FORTY = "1 2 3 4 5 6 7 8 9 10 11 12 13 14 15 16 17 18 19 20"
            + " 21 22 23 24 25 26 27 28 29 30 31 32 33 34 35 36 37 38 39 40";
    private final Sentences s;

    RowCases(Sentences s) {
        this.s = s;
    }

    void all() {
        newObject();
        row();
        lay();
        at();
        tear();
        copy();
        copyRefused();
        mean();
        text();
        put();
    }

    private void newObject() {
        s.sentence(1, "No ROWS, TEXTS, PANES.");
        for (int what = 0; what <= 10; what++) {
            s.is("count(" + what + ")", 0);
        }
        s.told("buried()", 0, 96);
        s.is("undo(0)", 0);
        s.is("asked()", 0);
        s.is("upper()", 0);
        s.is("lower()", 1);
        s.is("finding()", 0);
    }

    private void row() {
        s.sentence(2, "A ROW is there with n ints 0: n.");
        s.is("row(0, 0)", 0);
        s.is("row(5, 40)", 40);
        for (int i = 0; i < 40; i++) {
            s.told("row(0, 40) at(0, " + i + ")", 1, 0);
        }
        s.told("{0: 7 8 9} row(0, 3) at(0, 2)", 1, 0);
        s.told("{0: 7 8 9} row(0, 1) row(0, 3) at(0, 2)", 1, 0);
        s.told("{0: 7 8 9} tear(0) row(0, 3) at(0, 0)", 1, 0);
        s.is("row(0, 40) row(0, 0) count(6)", 1);
        s.sentence(2, "BAD: also n above 40;");
        s.bounds("{0: 7 8}", "row(#, 1)", 0, 5);
        s.refused("{0: 7 8}", "row(0, 41)", "BAD");
        s.refused("{0: 7 8}", "row(0, MOST)", "BAD");
        s.refused("{0: 7 8}", "row(6, 41)", "BAD");
        s.sentence(2, "SIZE: below 0.");
        s.refused("{0: 7 8}", "row(0, -1)", "SIZE");
        s.refused("{0: 7 8}", "row(0, LEAST)", "SIZE");
        s.refused("", "row(5, -1)", "SIZE");
    }

    /** The refusals of a place of a ROW that lay() and at() share. */
    private void placeRefused(String call) {
        s.bounds("row(0, 1) row(5, 1)", call.replace("R", "#").replace("I", "0"), 0, 5);
        s.refused("", call.replace("R", "0").replace("I", "0"), "NOTHING");
        s.refused("{5: 1} tear(5)", call.replace("R", "5").replace("I", "0"), "NOTHING");
        s.refused("{4: 1}", call.replace("R", "3").replace("I", "-1"), "NOTHING");
        s.refused("row(2, 0)", call.replace("R", "2").replace("I", "0"), "BEYOND");
        s.refused("{2: 4 5 6} row(2, 1)", call.replace("R", "2").replace("I", "1"), "BEYOND");
        for (String i : new String[] {"-1", "2", "40", "LEAST", "MOST"}) {
            s.refused("{2: 4 5}", call.replace("R", "2").replace("I", i), "BEYOND");
        }
        s.refused("{2: " + FORTY + "}", call.replace("R", "2").replace("I", "40"), "BEYOND");
    }

    private void lay() {
        s.sentence(3, "Place i of a ROW is v: what it was, told by asked(): 1.");
        s.told("row(0, 1) lay(0, 0, MOST)", 1, 0);
        s.told("{0: MOST} lay(0, 0, 3)", 1, Integer.MAX_VALUE);
        s.told("{0: LEAST} lay(0, 0, 3)", 1, Integer.MIN_VALUE);
        s.told("{0: 5} lay(0, 0, LEAST) at(0, 0)", 1, Integer.MIN_VALUE);
        s.told("{5: " + FORTY + "} lay(5, 39, -7)", 1, 40);
        s.told("{5: " + FORTY + "} lay(5, 39, -7) at(5, 38)", 1, 39);
        s.told("{5: " + FORTY + "} lay(5, 0, -7) at(5, 1)", 1, 2);
        s.sentence(3, "BAD; NOTHING; BEYOND.");
        placeRefused("lay(R, I, 9)");
    }

    private void at() {
        s.sentence(4, "Place i of a ROW, told by asked(): 1.");
        s.told("{5: " + FORTY + "} at(5, 0)", 1, 1);
        s.told("{5: " + FORTY + "} at(5, 39)", 1, 40);
        s.told("{0: LEAST MOST} at(0, 0)", 1, Integer.MIN_VALUE);
        s.told("{0: LEAST MOST} at(0, 1)", 1, Integer.MAX_VALUE);
        s.sentence(4, "BAD; NOTHING; BEYOND.");
        placeRefused("at(R, I)");
    }

    private void tear() {
        s.sentence(5, "A ROW is missing: 1.");
        s.is("row(0, 0) tear(0)", 1);
        s.is("row(5, 40) tear(5)", 1);
        s.is("row(5, 40) tear(5) count(6)", 0);
        s.alike("{1: 4} {2: 5 6} tear(2)", "{1: 4}");
        s.sentence(5, "BAD; NOTHING.");
        s.bounds("row(0, 1) row(5, 1)", "tear(#)", 0, 5);
        s.refused("row(1, 1)", "tear(0)", "NOTHING");
        s.refused("row(0, 1) tear(0)", "tear(0)", "NOTHING");
    }

    private void copy() {
        s.sentence(6, "n places of a ROW, from one on, come to those of another one (perhaps itself) from one on,"
                + " as if taken ahead: 1.");
        s.alike("{0: 1 2 3 4} copy(0, 0, 0, 1, 3)", "{0: 1 1 2 3}");
        s.alike("{0: 1 2 3 4} copy(0, 1, 0, 0, 3)", "{0: 2 3 4 4}");
        s.alike("{0: 1 2 3 4} copy(0, 0, 0, 0, 4)", "{0: 1 2 3 4}");
        s.alike("{0: 1 2 3 4} copy(0, 1, 0, 1, 2)", "{0: 1 2 3 4}");
        s.alike("{0: 1 2} {5: 3 4 5} copy(0, 0, 5, 1, 2)", "{0: 1 2} {5: 3 1 2}");
        s.alike("{0: 1 2} {5: 3 4 5} copy(5, 2, 0, 0, 1)", "{0: 5 2} {5: 3 4 5}");
        s.alike("{0: " + FORTY + "} row(1, 40) copy(0, 0, 1, 0, 40)", "{0: " + FORTY + "} {1: " + FORTY + "}");
        s.alike("{0: " + FORTY + "} {1: 0} copy(0, 39, 1, 0, 1)", "{0: " + FORTY + "} {1: 40}");
        s.is("{0: 1 2} {1: 3} copy(0, 0, 1, 0, 0)", 1);
        s.is("{0: 1 2} {1: 3} copy(0, 2, 1, 1, 0)", 1);
        s.is("row(0, 0) copy(0, 0, 0, 0, 0)", 1);
        s.alike("{0: 1 2} {1: 3} copy(0, 2, 1, 1, 0)", "{0: 1 2} {1: 3}");
    }

    private void copyRefused() {
        String two = "{0: 1 2 3 4} {1: 5 6 7} {5: 8}";
        s.sentence(6, "BAD; SIZE: n below 0; NOTHING: either; BEYOND: not so many there.");
        s.bounds("row(0, 1) row(5, 1)", "copy(#, 0, 0, 0, 1)", 0, 5);
        s.bounds("row(0, 1) row(5, 1)", "copy(0, 0, #, 0, 1)", 0, 5);
        s.refused(two, "copy(0, 0, 1, 0, -1)", "SIZE");
        s.refused(two, "copy(0, 0, 1, 0, LEAST)", "SIZE");
        s.refused(two, "copy(2, 9, 3, 9, -1)", "SIZE");
        s.refused(two, "copy(2, 0, 0, 0, 0)", "NOTHING");
        s.refused(two, "copy(0, 0, 2, 0, 0)", "NOTHING");
        s.refused(two, "copy(2, 9, 0, -1, 1)", "NOTHING");
        s.refused(two, "copy(0, 9, 2, -1, 1)", "NOTHING");
        s.refused(two, "copy(3, 0, 3, 0, 0)", "NOTHING");
        s.refused(two, "copy(0, 2, 1, 0, 3)", "BEYOND");
        s.refused(two, "copy(0, 0, 1, 1, 3)", "BEYOND");
        s.refused(two, "copy(1, 0, 0, 0, 4)", "BEYOND");
        s.refused(two, "copy(0, 0, 1, 0, 4)", "BEYOND");
        s.refused(two, "copy(0, 0, 0, 1, 4)", "BEYOND");
        s.refused(two, "copy(0, -1, 1, 0, 1)", "BEYOND");
        s.refused(two, "copy(0, 0, 1, -1, 1)", "BEYOND");
        s.refused(two, "copy(0, -1, 1, 0, 0)", "BEYOND");
        s.refused(two, "copy(0, 5, 1, 0, 0)", "BEYOND");
        s.refused(two, "copy(0, 0, 1, 4, 0)", "BEYOND");
        s.refused(two, "copy(0, 0, 1, 0, 41)", "BEYOND");
        s.refused(two, "copy(0, 0, 1, 0, MOST)", "BEYOND");
        s.refused(two, "copy(0, 1, 1, 1, MOST)", "BEYOND");
        s.refused(two, "copy(0, MOST, 1, 0, 1)", "BEYOND");
        s.refused(two, "copy(0, 0, 1, MOST, 1)", "BEYOND");
        s.refused(two, "copy(0, MOST, 1, MOST, MOST)", "BEYOND");
        s.refused(two, "copy(0, LEAST, 1, 0, 1)", "BEYOND");
        s.refused(two, "copy(0, LEAST, 1, LEAST, MOST)", "BEYOND");
    }

    private void mean() {
        s.sentence(7, "The mean of a ROW's ints, cut, told by asked(): 1.");
        s.told("{0: 9} mean(0)", 1, 9);
        s.told("{0: 3 4} mean(0)", 1, 3);
        s.told("{0: 3 4 4} mean(0)", 1, 3);
        s.told("{0: -3 -4} mean(0)", 1, -3);
        s.told("{0: -1 0 0} mean(0)", 1, 0);
        s.told("{0: 1 -1} mean(0)", 1, 0);
        s.told("{0: MOST MOST} mean(0)", 1, Integer.MAX_VALUE);
        s.told("{0: LEAST LEAST} mean(0)", 1, Integer.MIN_VALUE);
        s.told("{0: MOST LEAST} mean(0)", 1, 0);
        s.told("{0: MOST MOST LEAST} mean(0)", 1, 715827882);
        s.told("{5:" + " MOST".repeat(40) + "} mean(5)", 1, Integer.MAX_VALUE);
        s.told("{5:" + " LEAST".repeat(40) + "} mean(5)", 1, Integer.MIN_VALUE);
        s.told("{5: " + FORTY + "} mean(5)", 1, 20);
        s.told("{0: 100 100} {0: 6} mean(0)", 1, 6);
        s.sentence(7, "BAD; NOTHING; NOUGHT.");
        s.bounds("row(0, 1) row(5, 1)", "mean(#)", 0, 5);
        s.refused("{0: 5} at(0, 0)", "mean(1)", "NOTHING");
        s.refused("{0: 5} tear(0)", "mean(0)", "NOTHING");
        s.refused("{0: 5} at(0, 0) row(1, 0)", "mean(1)", "NOUGHT");
    }

    private void text() {
        s.sentence(8, "A TEXT is there with n blanks: n.");
        s.is("text(0, 0)", 0);
        s.is("text(3, 60)", 60);
        for (int i = 0; i < 60; i++) {
            s.is("text(3, 60) put(3, " + i + ", 65)", 1032);
        }
        s.is("'abc' text(0, 3) put(0, 2, 65)", 1032);
        s.is("'abc' text(0, 1) text(0, 3) put(0, 2, 65)", 1032);
        s.is("[p0022 p1122] text(0, 0) count(0)", 2);
        s.sentence(8, "BAD: also n above 60;");
        s.bounds("'abc'", "text(#, 1)", 0, 3);
        s.refused("'abc'", "text(0, 61)", "BAD");
        s.refused("'abc'", "text(0, MOST)", "BAD");
        s.refused("'abc'", "text(4, 61)", "BAD");
        s.sentence(8, "SIZE: below 0.");
        s.refused("'abc'", "text(0, -1)", "SIZE");
        s.refused("'abc'", "text(0, LEAST)", "SIZE");
        s.refused("", "text(3, -1)", "SIZE");
    }

    private void put() {
        s.sentence(9, "Byte i of a TEXT is v, cut to a byte: what it was, and 1000 more.");
        int[][] cut = {{0, 0}, {127, 127}, {128, -128}, {255, -1}, {256, 0}, {257, 1}, {-1, -1}, {-128, -128},
            {-129, 127}, {-256, 0}, {32, 32}, {Integer.MAX_VALUE, -1}, {Integer.MIN_VALUE, 0}};
        for (int[] one : cut) {
            s.is("text(0, 1) put(0, 0, " + one[0] + ") put(0, 0, 5)", 1000 + one[1]);
        }
        s.is("'abc' put(0, 0, 65)", 1097);
        s.is("'abc' put(0, 2, 65)", 1099);
        s.is("'abc' put(0, 1, 65) put(0, 0, 65)", 1097);
        s.is("text(3, 60) put(3, 59, 7) put(3, 59, 8)", 1007);
        s.sentence(9, "BAD; NOTHING; BEYOND.");
        s.bounds("text(0, 1) text(3, 1)", "put(#, 0, 9)", 0, 3);
        s.refused("", "put(0, 0, 9)", "NOTHING");
        s.refused("text(0, 1)", "put(3, -1, 9)", "NOTHING");
        s.refused("text(0, 0)", "put(0, 0, 9)", "BEYOND");
        for (String i : new String[] {"-1", "3", "60", "LEAST", "MOST"}) {
            s.refused("'abc'", "put(0, " + i + ", 9)", "BEYOND");
        }
        s.refused("text(3, 60)", "put(3, 60, 9)", "BEYOND");
    }
}
