/** Promises 13 to 20, sentence by sentence: what is told of a SLIP. */
final class EdgesOfTexts {
    private static final String MOST = "2147483647";
    private static final String LEAST = "-2147483648";
    /** ODDS 16, eight WORDS, eight LINES of four EDITS, six PEOPLE who say eight WORDS. */
    private static final String FULL = "odds 16;word a;word b;word c;word d;word e;word f;word g;word h;"
        + fullLine(1) + fullLine(11) + fullLine(21) + fullLine(31) + fullLine(41) + fullLine(51) + fullLine(61) + fullLine(999)
        + fullPerson("p") + fullPerson("q") + fullPerson("r") + fullPerson("s") + fullPerson("t") + fullPerson("u");
    private static final String SMALL = "word a;word b;word c;line 20 for a read b passim delete c;line 4;"
        + "person p at 4 says a b c;person q at 20;";

    private EdgesOfTexts() {
    }

    private static String fullLine(int number) {
        return "line " + number + " delete a delete a delete a delete h;";
    }

    private static String fullPerson(String name) {
        return "person " + name + " at 999 says a b c d e f g h;";
    }

    static void p13_many() {
        Edges.promise(13, "WORDS (what 0), LINES (1), PEOPLE (2); ODDS (3), the DAY (4), the set of LINES that are LOST (1 for LINE 0 ..) (5), "
            + "how many EDITS all LINES have (6), how many WORDS all PEOPLE say (7)");
        Run x = Edges.land(SMALL, 2);
        int[] due = {3, 2, 2, 2, 0, 0, 2, 3};
        for (int what = 0; what < due.length; what++) {
            x.gives("many(" + what + ")", due[what]);
        }
        x.does("lose(1, true)").gives("many(5)", 2).does("lose(0, true)").gives("many(5)", 3).does("lose(1, false)").gives("many(5)", 1);
        x.does("rule(0)").gives("many(3)", 0).does("day(99)").gives("many(4)", 99);
    }

    static void p13_full() {
        Edges.promise(13, "WORDS (what 0), LINES (1), PEOPLE (2);");
        Run x = Edges.land(FULL, 8);
        int[] due = {8, 8, 6, 16, 0, 0, 32, 48};
        for (int what = 0; what < due.length; what++) {
            x.gives("many(" + what + ")", due[what]);
        }
        x.does("lose(7, true)").gives("many(5)", 128);
        for (int line = 0; line < 7; line++) {
            x.does("lose(" + line + ", true)");
        }
        x.gives("many(5)", 255);
    }

    static void p13_refused() {
        Edges.promise(13, "(5).");
        Edges.land(SMALL, 2).refused("many(-1)", 5).refused("many(8)", 5).refused("many(" + MOST + ")", 5)
            .refused("many(" + LEAST + ")", 5);
    }

    static void p14_line() {
        Edges.promise(14, "Of a LINE, what 0: its number, 1: how many EDITS it has, 2: 1 if it is LOST, else 0, 3: the set of WORDS in its EDITS "
            + "(1 for WORD 0 ..), 4: the set of PEOPLE there");
        Run x = Edges.land(SMALL, 2).does("lose(0, true)");
        int[][] due = {{20, 2, 1, 7, 2}, {4, 0, 0, 0, 1}};
        for (int line = 0; line < 2; line++) {
            for (int what = 0; what < 5; what++) {
                x.gives("line(" + line + ", " + what + ")", due[line][what]);
            }
        }
        x.does("strike(0, 0)").gives("line(0, 3)", 4).does("strike(0, 0)").gives("line(0, 3)", 0).gives("line(0, 1)", 0);
        x.does("lose(0, false)").gives("line(0, 2)", 0);
    }

    static void p14_full() {
        Edges.promise(14, "3: the set of WORDS in its EDITS (1 for WORD 0 ..), 4: the set of PEOPLE there");
        Run x = Edges.land(FULL, 8).gives("line(7, 0)", 999).gives("line(7, 1)", 4).gives("line(7, 3)", 129).gives("line(7, 4)", 63);
        x.gives("line(0, 4)", 0);
    }

    static void p14_refused() {
        Edges.promise(14, "(2; 5).");
        Run x = Edges.land(SMALL, 2);
        x.refused("line(-1, 0)", 2).refused("line(2, 0)", 2).refused("line(" + LEAST + ", 5)", 2).refused("line(2, -1)", 2);
        x.refused("line(0, -1)", 5).refused("line(1, 5)", 5).refused("line(1, " + MOST + ")", 5);
    }

    static void p15_lineOf() {
        Edges.promise(15, "The LINE of a number");
        Run x = Edges.land("line 999;line 1;line 500;", 3).does("lose(2, true)");
        x.gives("lineOf(999)", 0).gives("lineOf(1)", 1).gives("lineOf(500)", 2);
    }

    static void p15_refused() {
        Edges.promise(15, "(5: not 1 to 999; 8: none).");
        Run x = Edges.land("line 998;line 2;", 2);
        x.refused("lineOf(0)", 5).refused("lineOf(-1)", 5).refused("lineOf(1000)", 5).refused("lineOf(" + MOST + ")", 5);
        x.refused("lineOf(1)", 8).refused("lineOf(999)", 8).refused("lineOf(3)", 8);
        Edges.run().refused("lineOf(1)", 8).refused("lineOf(0)", 5);
    }

    static void p16_edit() {
        Edges.promise(16, "Of an EDIT of a LINE, what 0: 0 FOR, 1 DELETE, 2 AFTER, 1: the first WORD, 2: the second one (8: DELETE), "
            + "3: 1 with PASSIM, else 0");
        Run x = Edges.land("word a;word b;line 1 for b read a delete b passim after b insert b for a read b passim;line 2 delete a;", 2);
        long[][] due = {{0, 1, 0, 0}, {1, 1, -1, 1}, {2, 1, 1, 0}, {0, 0, 1, 1}};
        for (int edit = 0; edit < 4; edit++) {
            for (int what = 0; what < 4; what++) {
                if (due[edit][what] < 0) {
                    x.refused("edit(0, " + edit + ", 2)", 8);
                } else {
                    x.gives("edit(0, " + edit + ", " + what + ")", due[edit][what]);
                }
            }
        }
        x.refused("edit(1, 0, 2)", 8).gives("edit(1, 0, 3)", 0);
    }

    static void p16_refused() {
        Edges.promise(16, "(2; 5).");
        Run x = Edges.land(SMALL, 2);
        x.refused("edit(-1, 0, 0)", 2).refused("edit(2, 0, 0)", 2).refused("edit(0, -1, 0)", 2).refused("edit(0, 2, 0)", 2);
        x.refused("edit(1, 0, 0)", 2).refused("edit(0, 2, 4)", 2).refused("edit(0, " + MOST + ", -1)", 2);
        x.refused("edit(0, 1, 4)", 5).refused("edit(0, 0, -1)", 5).refused("edit(0, 1, " + LEAST + ")", 5);
    }

    static void p17_placeOf() {
        Edges.promise(17, "The LINE where a PERSON is (2).");
        Run x = Edges.land(SMALL, 2).gives("placeOf(0)", 1).gives("placeOf(1)", 0);
        x.refused("placeOf(-1)", 2).refused("placeOf(2)", 2).refused("placeOf(" + MOST + ")", 2);
        Edges.land(FULL, 8).gives("placeOf(5)", 7);
    }

    static void p18_length() {
        Edges.promise(18, "How many WORDS a PERSON says (2).");
        Run x = Edges.land(SMALL, 2).gives("length(0)", 3).gives("length(1)", 0);
        x.refused("length(-1)", 2).refused("length(2)", 2).refused("length(" + LEAST + ")", 2);
        Edges.land(FULL, 8).gives("length(5)", 8);
    }

    static void p19_says() {
        Edges.promise(19, "The k-th WORD that he says, from 0 on (2; 8: no such).");
        Run x = Edges.land(SMALL, 2).gives("says(0, 0)", 0).gives("says(0, 2)", 2);
        x.refused("says(0, 3)", 8).refused("says(0, -1)", 8).refused("says(0, " + MOST + ")", 8).refused("says(1, 0)", 8);
        x.refused("says(2, 0)", 2).refused("says(-1, 9)", 2);
        Run y = Edges.land(FULL, 8).gives("says(5, 0)", 0).gives("says(5, 7)", 7);
        y.gives("many(0)", 8);
    }

    static void p19_noNinthWord() {
        Edges.promise(19, "(2; 8: no such).");
        Edges.land("word a;line 1;person p at 1 says a a a a a a a a;", 1).gives("says(0, 7)", 0).refused("says(0, 8)", 8);
    }

    static void p20_copyRow() {
        Edges.promise(20, "What he says comes to a TRAY: how many WORDS");
        Run x = Edges.land(SMALL, 2).row(0, 9, 9, 9).gives("copyRow(0, 0)", 3).holds(0, 0, 1, 2);
        x.row(0, 9, 9, 9, 9).gives("copyRow(0, 0)", 3).holds(0, 0, 1, 2, 9);
        x.gives("copyRow(1, 0)", 0).holds(0, 0, 1, 2, 9).does("tray(1, 3, 0)").gives("copyRow(1, 1)", 0);
        Edges.land(FULL, 8).does("tray(2, 0, 8)").gives("copyRow(0, 2)", 8).holds(2, 0, 1, 2, 3, 4, 5, 6, 7);
    }

    static void p20_refused() {
        Edges.promise(20, "(1; 2; 3; 4).");
        Run x = Edges.land(SMALL, 2).row(0, 9, 9).does("tray(1, 0, 0)");
        x.refused("copyRow(0, -1)", 1).refused("copyRow(2, 4)", 1).refused("copyRow(-1, 2)", 2).refused("copyRow(2, 0)", 2);
        x.refused("copyRow(0, 2)", 3).refused("copyRow(1, 2)", 3).refused("copyRow(0, 0)", 4).refused("copyRow(0, 1)", 4);
    }
}
