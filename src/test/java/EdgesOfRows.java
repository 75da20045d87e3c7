/** Promises 42 to 48, sentence by sentence: rows behind a LINE, games. */
final class EdgesOfRows {
    private static final String MOST = "2147483647";
    private static final String LEAST = "-2147483648";
    private static final String WORDS = "word a;word b;word c;word d;";

    private EdgesOfRows() {
    }

    // ---- needs

    /** A LINE of these EDITS needs a ROW, each WORD a digit. */
    private static void needs(String edits, String row) {
        Run x = Edges.land(WORDS + "line 1 " + edits + ";", 1).gives("needs(0)", row.length());
        for (int k = 0; k < row.length(); k++) {
            x.gives("needsAt(0, " + k + ")", row.charAt(k) - '0');
        }
        x.refused("needsAt(0, " + row.length() + ")", 8);
    }

    static void p42_shortestAndFirst() {
        Edges.terms("NEEDS of a LINE: the shortest ROW for which no EDIT is in VAIN as it puts it right; of several the first by WORDS.");
        needs("for a read b for b read c", "0");
        needs("for b read c for a read b", "01");
        needs("delete b delete a", "01");
        needs("after c insert d delete d", "2");
        needs("for c read a for b read a delete d", "123");
        needs("delete a passim after b insert a delete a", "01");
        needs("delete d", "3");
    }

    static void p42_fromNoneToFour() {
        Edges.promise(42, "NEEDS: how long");
        needs("", "");
        needs("delete a delete a delete a delete a", "0000");
        needs("delete d delete c delete b delete a", "0123");
        Edges.land(WORDS + "line 1 delete a;", 1).does("lose(0, true)").gives("needs(0)", 1);
    }

    static void p42_refused() {
        Edges.promise(42, "(2; 8: no ROW of 0 to 5).");
        Run x = Edges.land(WORDS + "line 1 delete a passim delete a;line 2 for a read b passim after a insert a;", 2);
        x.refused("needs(0)", 8).refused("needs(1)", 8).refused("needs(2)", 2).refused("needs(-1)", 2).refused("needs(" + MOST + ")", 2);
    }

    static void p43_needsAt() {
        Edges.promise(43, "The k-th WORD of that, from 0 on (2; 8: no such).");
        Run x = Edges.land(WORDS + "line 1 delete d delete b;line 2;line 3 delete a passim delete a;", 3);
        x.gives("needsAt(0, 0)", 1).gives("needsAt(0, 1)", 3).refused("needsAt(0, 2)", 8).refused("needsAt(0, -1)", 8);
        x.refused("needsAt(0, " + MOST + ")", 8).refused("needsAt(1, 0)", 8).refused("needsAt(2, 0)", 8);
        x.refused("needsAt(3, 0)", 2).refused("needsAt(-1, -1)", 2);
    }

    // ---- texts

    static void p44_inHowManyWays() {
        Edges.terms("TEXTS of m WORDS (0 to 5) that come out as a ROW: in how many ways a ROW of m WORDS is put right to just that one, and no "
            + "EDIT is in VAIN.");
        Run x = Edges.land(WORDS + "line 1 for a read b;line 2 delete a;line 3;line 4 delete a passim;line 5 after a insert b;"
            + "line 6 delete a delete b;", 6).row(0, 1, 1, 2);
        x.gives("texts(0, 3, 0, 3)", 2).gives("texts(0, 3, 0, 2)", 0).gives("texts(0, 3, 0, 4)", 0);
        x.gives("texts(0, 3, 1, 4)", 4).gives("texts(0, 3, 2, 3)", 1).gives("texts(0, 3, 2, 2)", 0);
        x.gives("texts(0, 3, 3, 4)", 4).gives("texts(0, 3, 3, 5)", 10).gives("texts(0, 3, 3, 3)", 0).gives("texts(0, 3, 4, 2)", 0);
        x.row(1, 2, 0, 1, 3, 0, 1).gives("texts(1, 6, 4, 5)", 1).gives("texts(1, 3, 4, 2)", 1);
        x.row(2, 2).gives("texts(2, 1, 5, 1)", 0).gives("texts(2, 1, 5, 3)", 6);
    }

    static void p44_noneToFiveWords() {
        Edges.promise(44, "TEXTS of m WORDS (0 to 5): in how many ways");
        String three = "after a insert b after a insert b after a insert b";
        Run x = Edges.land(WORDS + "line 1 delete a;line 2;line 3 delete a passim;line 4 " + three + ";line 5 " + three + " after a insert b;", 5);
        x.row(0, 0, 1, 1, 1, 2, 3, 3, 3).row(1, 0, 1, 1, 1, 1, 2, 3, 3);
        x.gives("texts(0, 0, 0, 0)", 0).gives("texts(0, 0, 0, 1)", 1).gives("texts(0, 0, 1, 0)", 1).gives("texts(0, 0, 1, 1)", 0);
        x.gives("texts(0, 0, 2, 5)", 1).gives("texts(0, 5, 1, 5)", 1).gives("texts(0, 8, 3, 5)", 1).gives("texts(1, 8, 4, 4)", 1);
        x.gives("texts(0, 8, 4, 5)", 0).gives("texts(0, 8, 1, 5)", 0).does("lose(2, true)").gives("texts(0, 0, 2, 5)", 1);
    }

    static void p44_refused() {
        Edges.promise(44, "(1; 2; 3; 4; 5).");
        Run x = Edges.land(WORDS + "line 1 delete a;", 1).wrongRows("texts(T, N, 0, 1)").row(0, 0, 1, 4);
        x.refused("texts(0, 2, 0, 6)", 5).refused("texts(0, 2, 0, -1)", 5).refused("texts(0, 2, 0, " + MOST + ")", 5);
        x.refused("texts(4, 9, 1, 9)", 1).refused("texts(2, 9, 1, 9)", 2).refused("texts(0, 0, -1, 0)", 2).refused("texts(2, 9, 0, 9)", 3);
        x.refused("texts(0, 4, 0, 9)", 4);
    }

    // ---- clash

    /** Two LINES of these EDITS clash by a ROW, each WORD a digit. */
    private static void clash(String one, String other, String row) {
        Run x = Edges.land(WORDS + "line 1 " + one + ";line 5 " + other + ";", 2).gives("clash(0, 1)", row.length());
        x.gives("clash(1, 0)", row.length());
        for (int k = 0; k < row.length(); k++) {
            x.gives("clashAt(0, 1, " + k + ")", row.charAt(k) - '0').gives("clashAt(1, 0, " + k + ")", row.charAt(k) - '0');
        }
        x.refused("clashAt(0, 1, " + row.length() + ")", 8);
    }

    /**
     * a b b: by the first LINE a a, by the second then a; the other way round nothing. With n a's and m b's there are n and
     * m - 1 a's behind the first and one less behind the second, but n - 1 the other way round, so that nothing shorter will do.
     */
    static void p45_shortestAndFirst() {
        Edges.terms("CLASH of two LINES: the shortest ROW (0 to 3 WORDS), of several the first by WORDS, that is another one if the first puts it "
            + "right and then the second than the other way round.");
        clash("for a read b", "for b read c", "0");
        clash("for a read b", "delete b passim", "0");
        clash("for d read a", "after d insert b", "3");
        clash("after c insert c after c insert c", "delete c delete c delete c", "22");
        clash("delete d after d insert c", "delete d", "33");
        clash("delete b for b read a passim", "delete a delete b passim", "011");
    }

    static void p45_refused() {
        Edges.promise(45, "CLASH: how long (2; 9: one and itself; 8: none).");
        Run x = Edges.land(WORDS + "line 1 for a read b;line 5 delete d;line 9;line 13 delete b delete b for b read a passim;"
            + "line 17 delete a delete b passim;", 5);
        x.refused("clash(0, 1)", 8).refused("clash(0, 2)", 8).refused("clash(3, 4)", 8).refused("clash(0, 0)", 9).refused("clash(2, 2)", 9);
        x.refused("clash(5, 5)", 2).refused("clash(0, 5)", 2).refused("clash(-1, 0)", 2).refused("clash(0, " + LEAST + ")", 2);
        Run y = Edges.land(WORDS + "line 1 for a read b;line 5 for b read c;", 2).does("lose(0, true)").gives("clash(0, 1)", 1);
        y.refused("clash(0, 0)", 9);
    }

    static void p46_clashAt() {
        Edges.promise(46, "The k-th WORD of that, from 0 on (2; 9; 8: no such).");
        Run x = Edges.land(WORDS + "line 1 for b read c;line 5 for c read d;line 9 delete a;", 3);
        x.gives("clashAt(0, 1, 0)", 1).refused("clashAt(0, 1, 1)", 8).refused("clashAt(0, 1, -1)", 8).refused("clashAt(0, 1, " + MOST + ")", 8);
        x.refused("clashAt(0, 2, 0)", 8).refused("clashAt(1, 1, 0)", 9).refused("clashAt(1, 1, 9)", 9);
        x.refused("clashAt(3, 3, 0)", 2).refused("clashAt(0, 3, 9)", 2).refused("clashAt(-1, 0, 0)", 2);
    }

    // ---- games

    /** a c b b by three EDITS; what each turn can do is small enough to be written down. */
    static void p47_byBestPlay() {
        Edges.terms("GAME of a LINE, a ROW, two WORDS (x, y) and n turns (0 to 4): by turns, the first first, one does an EDIT of the LINE that "
            + "was not done in the GAME yet (in VAIN or not), or nothing: at the end how often x stands there less how often y does, by "
            + "best play (the first wants it great, the second little).");
        Run x = Edges.land(WORDS + "line 1 for a read b for c read a delete b passim;line 2 after a insert a after a insert a after a insert a "
            + "after a insert a;line 3 delete a;line 4 for a read c delete a;", 4).row(0, 0, 2, 1, 1).row(1, 0, 1);
        x.gives("game(0, 4, 0, 0, 1, 0)", -1).gives("game(0, 4, 0, 1, 0, 0)", 1).gives("game(0, 4, 0, 0, 1, 1)", 1);
        x.gives("game(0, 4, 0, 0, 1, 2)", -1).gives("game(0, 4, 0, 0, 1, 3)", 1);
        int[] due = {1, 2, 2, 3, 3};
        for (int turns = 0; turns < due.length; turns++) {
            x.gives("game(1, 1, 1, 0, 1, " + turns + ")", due[turns]);
        }
        x.gives("game(1, 2, 2, 1, 0, 1)", 1).gives("game(1, 2, 2, 0, 1, 1)", 0).gives("game(1, 2, 2, 0, 1, 2)", -1);
        x.gives("game(1, 2, 3, 0, 1, 2)", -1);
    }

    /** Each EDIT is done but once: a a with one delete a is of use but for one turn. */
    static void p47_eachEditOnce() {
        Edges.promise(47, "GAME");
        Run x = Edges.land(WORDS + "line 1 delete a;line 2;line 3 delete a delete a;", 3).row(0, 0, 0, 0);
        x.gives("game(0, 3, 0, 1, 0, 1)", -2).gives("game(0, 3, 0, 1, 0, 3)", -2).gives("game(0, 3, 0, 1, 0, 4)", -2);
        x.gives("game(0, 3, 2, 1, 0, 3)", -1).gives("game(0, 3, 2, 1, 0, 2)", -2).gives("game(0, 3, 1, 1, 0, 4)", -3);
        x.gives("game(0, 0, 0, 1, 0, 4)", 0).does("lose(0, true)").gives("game(0, 3, 0, 1, 0, 1)", -2);
        Edges.land(WORDS + "line 1;", 1).row(0, 3, 3, 3, 3, 3, 3, 3, 3).gives("game(0, 8, 0, 3, 0, 4)", 8).gives("game(0, 8, 0, 0, 3, 4)", -8);
    }

    /**
     * a: the first inserts an a, the second makes a b of one, and there is nothing left. Were it nothing that the first did,
     * b were all there is, for then there is no a to insert one behind.
     */
    static void p47_noEditTwice() {
        Edges.terms("one does an EDIT of the LINE that was not done in the GAME yet (in VAIN or not), or nothing:");
        Run x = Edges.land(WORDS + "line 1 for a read b after a insert a;line 2 after a insert a for a read b;", 2).row(0, 0);
        x.gives("game(0, 1, 0, 0, 1, 3)", 0).gives("moveOf(0, 1, 0, 0, 1, 3)", 1);
        x.gives("game(0, 1, 1, 0, 1, 3)", 0).gives("moveOf(0, 1, 1, 0, 1, 3)", 0);
    }

    static void p47_refused() {
        Edges.promise(47, "(1; 2: LINE, WORDS; 3; 4; 5: one WORD and itself, turns, too).");
        Run x = Edges.land(WORDS + "line 1 delete a;", 1).wrongRows("game(T, N, 0, 0, 1, 1)");
        wrongGames(x, "game");
        x.gives("game(0, 1, 0, 0, 1, 0)", 1);
    }

    private static void wrongGames(Run x, String call) {
        x.row(0, 0, 1, 4);
        x.refused(call + "(4, 9, 1, 4, 4, 9)", 1).refused(call + "(2, 9, 1, 0, 1, 9)", 2).refused(call + "(2, 9, -1, 0, 1, 9)", 2);
        x.refused(call + "(2, 9, 0, 4, 1, 9)", 2).refused(call + "(2, 9, 0, -1, 1, 9)", 2).refused(call + "(2, 9, 0, 1, 4, 9)", 2);
        x.refused(call + "(2, 9, 0, 1, -1, 9)", 2).refused(call + "(0, 2, 0, 4, 4, 1)", 2).refused(call + "(2, 9, 0, 1, 1, 9)", 3);
        x.refused(call + "(0, 4, 0, 1, 1, 9)", 4).refused(call + "(0, 2, 0, 1, 1, 1)", 5).refused(call + "(0, 2, 0, 0, 1, 5)", 5);
        x.refused(call + "(0, 2, 0, 0, 1, -1)", 5).refused(call + "(0, 2, 0, 0, 1, " + MOST + ")", 5).does(call + "(0, 2, 0, 1, 0, 4)");
    }

    static void p48_move() {
        Edges.terms("MOVE: the first's first EDIT, of all that are as good the first; nothing comes last.");
        Edges.promise(48, "MOVE: the EDIT");
        Run x = Edges.land(WORDS + "line 1 for a read b for c read a delete b passim;line 2 delete d delete b;line 3 delete c delete a delete a;", 3);
        x.row(0, 0, 2, 1, 1).row(1, 0, 0, 1);
        x.gives("moveOf(0, 4, 0, 0, 1, 1)", 2).gives("moveOf(0, 4, 0, 0, 1, 2)", 2).gives("moveOf(0, 4, 0, 0, 1, 3)", 1);
        x.gives("moveOf(0, 4, 0, 1, 0, 1)", 0).gives("moveOf(0, 0, 0, 0, 1, 4)", 0).gives("moveOf(0, 4, 1, 1, 0, 1)", 0);
        x.gives("moveOf(1, 3, 2, 1, 0, 1)", 1).gives("moveOf(1, 3, 2, 0, 1, 1)", 0);
    }

    static void p48_refused() {
        Edges.promise(48, "(1; 2; 3; 4; 5: turns 0, too; 8: nothing).");
        Run x = Edges.land(WORDS + "line 1 delete a;", 1).wrongRows("moveOf(T, N, 0, 1, 0, 1)");
        wrongGames(x, "moveOf");
        x.refused("moveOf(0, 2, 0, 1, 0, 0)", 5).refused("moveOf(2, 2, 0, 1, 0, 0)", 3);
    }

    static void p48_nothing() {
        Edges.promise(48, "8: nothing).");
        Run x = Edges.land(WORDS + "line 1 delete a;line 2;", 2).row(0, 0, 1);
        x.refused("moveOf(0, 2, 0, 0, 1, 1)", 8).refused("moveOf(0, 2, 1, 0, 1, 4)", 8).gives("moveOf(0, 2, 0, 1, 0, 1)", 0);
        x.refused("moveOf(0, 2, 1, 0, 1, 0)", 5);
    }
}
