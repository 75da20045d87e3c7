/** Promises 29 to 41, sentence by sentence: what a LINE does, ways among LINES, what is omitted. */
final class EdgesOfLines {
    private static final String MOST = "2147483647";
    private static final String LEAST = "-2147483648";
    private static final String WORDS = "word a;word b;word c;word d;";

    private EdgesOfLines() {
    }

    // ---- right, vain, makes

    static void p29_right() {
        Edges.promise(29, "What a LINE (LOST, too) makes of a ROW comes to another TRAY, or the same: how many WORDS");
        Run x = Edges.land(WORDS + "line 1 after a insert b;line 2 delete a passim;", 2).row(0, 0, 2, 0).row(1, 9, 9, 9, 9, 9);
        x.gives("right(0, 3, 0, 1)", 4).holds(1, 0, 1, 2, 0, 9).holds(0, 0, 2, 0);
        x.gives("right(0, 2, 1, 0)", 1).holds(0, 2, 2, 0);
        x.does("lose(0, true)").gives("right(0, 3, 0, 1)", 4).holds(1, 2, 2, 0, 1, 9);
        x.gives("right(0, 0, 0, 1)", 0).holds(1, 2, 2, 0, 1, 9).does("tray(2, 0, 0)").gives("right(0, 3, 1, 1)", 2).gives("right(0, 0, 0, 2)", 0);
    }

    static void p29_eightWords() {
        Edges.promise(29, "comes to another TRAY, or the same: how many WORDS");
        String four = "after a insert b after a insert b after a insert b after a insert b";
        Run x = Edges.land(WORDS + "line 1 " + four + ";", 1).row(0, 0, 0, 0, 0, 0).does("tray(1, 0, 8)", "tray(2, 0, 7)");
        x.gives("right(0, 4, 0, 1)", 8).holds(1, 0, 1, 1, 1, 1, 0, 0, 0).refused("right(0, 4, 0, 2)", 4);
        x.gives("right(0, 5, 0, 1)", 8).holds(1, 0, 1, 1, 1, 0, 0, 0, 0).gives("right(0, 3, 0, 2)", 7);
        x.gives("right(1, 8, 0, 1)", 8).holds(1, 0, 1, 1, 1, 0, 0, 0, 0);
    }

    static void p29_refused() {
        Edges.promise(29, "(1: either; 2; 3: either; 4: the ROW; 5; then 4: the other TRAY).");
        Run x = Edges.land(WORDS + "line 1 after a insert b;", 1).does("tray(3, 0, 2)").wrongRows("right(T, N, 0, 3)");
        x.row(0, 0, 2, 0).row(1, 0, 0, 0, 0, 0, 0, 0, 0, 0);
        x.refused("right(4, 9, 1, 2)", 1).refused("right(2, 9, 1, 4)", 1).refused("right(0, 3, 0, -1)", 1);
        x.refused("right(2, 9, 1, 2)", 2).refused("right(0, 9, -1, 1)", 2).refused("right(0, 3, " + MOST + ", 1)", 2);
        x.refused("right(2, 9, 0, 1)", 3).refused("right(0, 4, 0, 2)", 3).refused("right(0, -1, 0, 2)", 3);
        x.refused("right(0, 4, 0, 3)", 4).refused("right(0, 3, 0, 3)", 4).refused("right(0, 3, 0, 0)", 4);
        x.refused("right(0, -1, 0, 3)", 5).refused("right(1, 9, 0, 3)", 5);
    }

    static void p29_noWordAheadOfNoRoom() {
        Edges.promise(29, "5; then 4: the other TRAY).");
        Run x = Edges.land(WORDS + "line 1;", 1).row(0, 0, 4, 0).does("tray(1, 0, 0)");
        x.refused("right(0, 2, 0, 1)", 5).refused("right(0, 1, 0, 1)", 4).refused("right(0, 4, 0, 1)", 4).gives("right(0, 0, 0, 1)", 0);
    }

    static void p30_vain() {
        Edges.promise(30, "The set of its EDITS (1 for EDIT 0 ..) that are in VAIN for a ROW");
        Run x = Edges.land(WORDS + "line 1 delete a delete a for b read c delete b;line 2 after a insert a after a insert b;line 3;"
            + "line 4 for a read b passim delete a;", 4).row(0, 0, 1, 2, 2, 2, 2, 2, 2);
        x.gives("vain(0, 2, 0)", 10).gives("vain(0, 0, 0)", 15).gives("vain(0, 1, 0)", 14);
        x.gives("vain(0, 6, 1)", 0).gives("vain(0, 7, 1)", 2).gives("vain(0, 8, 1)", 3).gives("vain(0, 0, 1)", 3);
        x.gives("vain(0, 8, 2)", 0).gives("vain(0, 8, 3)", 2).does("lose(3, true)").gives("vain(0, 8, 3)", 2);
    }

    static void p30_refused() {
        Edges.promise(30, "(1; 2; 3; 4; 5).");
        Run x = Edges.land(WORDS + "line 1 delete a;", 1).wrongRows("vain(T, N, 0)");
        x.refused("vain(4, 9, 1)", 1).refused("vain(2, 9, 1)", 2).refused("vain(0, 0, -1)", 2).refused("vain(2, 9, 0)", 3);
    }

    static void p31_makes() {
        Edges.promise(31, "1 if a LINE makes of a ROW (the first TRAY, n) just another one (the second, m), else 0");
        Run x = Edges.land(WORDS + "line 1 delete a;line 2;", 2).row(0, 0, 1, 0).row(1, 1, 0, 0);
        x.gives("makes(0, 3, 0, 1, 2)", 1).gives("makes(0, 3, 0, 1, 3)", 0).gives("makes(0, 3, 0, 1, 1)", 0);
        x.gives("makes(0, 1, 0, 1, 0)", 1).gives("makes(0, 0, 0, 1, 0)", 1).gives("makes(0, 0, 0, 1, 1)", 0).gives("makes(0, 1, 0, 1, 1)", 0);
        x.gives("makes(0, 3, 1, 0, 3)", 1).gives("makes(0, 3, 1, 1, 3)", 0).does("lose(0, true)").gives("makes(0, 3, 0, 1, 2)", 1);
    }

    static void p31_refused() {
        Edges.promise(31, "(1; 2; 3; 4; 5).");
        Run x = Edges.land(WORDS + "line 1 delete a;", 1).wrongRows("makes(T, N, 0, 1, 0)").wrongRows("makes(1, 0, 0, T, N)");
        twoRows(x, "makes(T, N, 0, U, M)");
        x.refused("makes(4, 9, 9, 2, 9)", 1).refused("makes(2, 9, 9, -1, 9)", 1).refused("makes(2, 9, 1, 2, 9)", 2);
        x.refused("makes(0, 0, -1, 0, 0)", 2);
    }

    /** Two ROWS that are wrong in two ways: the lesser STATUS is told; T, N and U, M stand for them, TRAY 2 is MISSING. */
    private static void twoRows(Run x, String call) {
        x.row(0, 0, 4, 0);
        String[] missing = {"2", "0"};
        String[] tooFew = {"0", "4"};
        String[] noWord = {"0", "2"};
        String[] below = {"0", "-1"};
        x.refused(both(call, missing, tooFew), 3).refused(both(call, tooFew, missing), 3);
        x.refused(both(call, tooFew, noWord), 4).refused(both(call, noWord, tooFew), 4);
        x.refused(both(call, tooFew, below), 4).refused(both(call, below, tooFew), 4).refused(both(call, below, noWord), 5);
    }

    private static String both(String call, String[] one, String[] other) {
        return call.replace("T", one[0]).replace("N", one[1]).replace("U", other[0]).replace("M", other[1]);
    }

    // ---- second, chance, same, circles

    static void p32_second() {
        Edges.terms("SECOND: the fewest EDITS (one WORD becomes another one, goes, or comes in anywhere) from a ROW to another one.");
        Run x = Edges.land(WORDS, 0).row(0, 0, 1, 2, 3, 0, 1, 2, 3);
        x.row(1, 0, 3, 2, 3).gives("second(0, 4, 1, 4)", 1);
        x.row(1, 0, 2, 3).gives("second(0, 4, 1, 3)", 1).gives("second(1, 3, 0, 4)", 1);
        x.row(1, 3, 0, 1, 2).gives("second(0, 3, 1, 4)", 1).gives("second(0, 4, 1, 4)", 2);
        x.row(1, 1, 2, 3, 0, 1, 2, 3, 0).gives("second(0, 8, 1, 8)", 2);
        x.row(1, 1, 0, 3, 2).gives("second(0, 4, 1, 4)", 3);
        x.row(2, 0, 0, 0, 0, 0, 0, 0, 0).row(3, 1, 1, 1, 1, 1, 1, 1, 1).gives("second(2, 8, 3, 8)", 8).gives("second(2, 8, 3, 5)", 8);
    }

    static void p32_ofNothing() {
        Edges.promise(32, "SECOND: how many EDITS");
        Run x = Edges.land(WORDS, 0).row(0, 0, 1, 2, 3, 0, 1, 2, 3).does("tray(1, 0, 0)");
        x.gives("second(0, 0, 1, 0)", 0).gives("second(1, 0, 1, 0)", 0).gives("second(0, 8, 1, 0)", 8).gives("second(1, 0, 0, 8)", 8);
        x.gives("second(0, 8, 0, 8)", 0).gives("second(0, 8, 0, 3)", 5);
        Edges.run().does("tray(0, 0, 1)").gives("second(0, 0, 0, 0)", 0).refused("second(0, 1, 0, 0)", 5);
    }

    static void p32_refused() {
        Edges.promise(32, "(1; 3; 4; 5).");
        Run x = Edges.land(WORDS, 0).wrongRows("second(T, N, 1, 0)").wrongRows("second(1, 0, T, N)");
        twoRows(x, "second(T, N, U, M)");
        x.refused("second(4, 9, 2, 9)", 1).refused("second(2, 9, -1, 9)", 1);
    }

    static void p33_chance() {
        Edges.terms("CHANCE that a LINE puts a ROW right to another one: each of its EDITS, by itself, is misprinted by ODDS sixteenths, and "
            + "not done then.");
        Run x = Edges.land(WORDS + "odds 4;line 1 for a read b after d insert c;line 2;line 3 delete c for a read b;"
            + "line 4 for a read b delete b;line 5 delete a delete a;", 5).row(0, 0, 3, 2).row(1, 1, 3, 2, 2);
        x.gives("chance(0, 3, 0, 1, 4)", 1).fraction(9, 16).gives("chance(0, 3, 0, 1, 3)", 1).fraction(3, 16);
        x.gives("chance(0, 3, 0, 0, 3)", 1).fraction(1, 16).gives("chance(0, 2, 2, 0, 2)", 1).fraction(1, 4);
        x.row(2, 0, 3, 2, 2).gives("chance(0, 3, 0, 2, 4)", 1).fraction(3, 16).gives("chance(0, 3, 0, 1, 2)", 1).fraction(0, 1);
        x.row(2, 0, 1).row(3, 0).gives("chance(2, 2, 3, 3, 1)", 1).fraction(3, 16).row(3, 1).gives("chance(2, 2, 3, 3, 1)", 1).fraction(9, 16);
        x.row(2, 0, 0).row(3, 0).gives("chance(2, 2, 4, 3, 1)", 1).fraction(3, 8).gives("chance(2, 2, 4, 3, 0)", 1).fraction(9, 16);
        x.does("lose(4, true)").gives("chance(2, 2, 4, 2, 2)", 1).fraction(1, 16);
    }

    static void p33_oddsOf0And16() {
        Edges.promise(33, "The FRACTION is CHANCE");
        Run x = Edges.land(WORDS + "line 1 delete a delete b delete c delete d;line 2;", 2).row(0, 0, 1, 2, 3);
        x.gives("chance(0, 4, 0, 0, 0)", 1).fraction(2401, 4096).gives("chance(0, 4, 0, 0, 4)", 1).fraction(1, 4096);
        x.does("rule(0)").gives("chance(0, 4, 0, 0, 0)", 1).fraction(1, 1).gives("chance(0, 4, 0, 0, 4)", 1).fraction(0, 1);
        x.does("rule(16)").gives("chance(0, 4, 0, 0, 0)", 1).fraction(0, 1).gives("chance(0, 4, 0, 0, 4)", 1).fraction(1, 1);
        x.does("rule(15)").gives("chance(0, 4, 0, 0, 0)", 1).fraction(1, 65536);
        x.gives("chance(0, 4, 1, 0, 4)", 1).fraction(1, 1).gives("chance(0, 4, 1, 0, 3)", 1).fraction(0, 1);
        x.gives("chance(0, 0, 0, 0, 0)", 1).fraction(1, 1);
    }

    static void p33_refused() {
        Edges.promise(33, "(1; 2; 3; 4; 5).");
        Run x = Edges.land(WORDS + "line 1 delete a;", 1).wrongRows("chance(T, N, 0, 1, 0)").wrongRows("chance(1, 0, 0, T, N)");
        twoRows(x, "chance(T, N, 0, U, M)");
        x.refused("chance(4, 9, 9, 2, 9)", 1).refused("chance(2, 9, 9, -1, 9)", 1).refused("chance(2, 9, 1, 2, 9)", 2);
        x.refused("chance(0, 0, -1, 0, 0)", 2);
    }

    static void p34_same() {
        Edges.terms("SAME: in how many orders of its EDITS (each once; alike ones are told apart) a LINE makes of a ROW what it makes of it as "
            + "they stand.");
        Run x = Edges.land(WORDS + "line 1 delete a delete a delete a;line 2 for a read b for b read c;"
            + "line 3 delete b for a read b after b insert d for b read a;", 3).row(0, 0, 1).row(1, 1);
        x.gives("same(0, 1, 0)", 6).gives("same(0, 1, 1)", 1).gives("same(0, 2, 1)", 1).gives("same(1, 1, 1)", 2);
        x.gives("same(0, 0, 2)", 24).does("lose(0, true)").gives("same(0, 2, 0)", 6);
    }

    static void p34_noEdits() {
        Edges.promise(34, "SAME");
        Run x = Edges.land(WORDS + "line 1;line 2 delete a;", 2).row(0, 0, 1, 2, 3, 0, 1, 2, 3);
        x.gives("same(0, 8, 0)", 1).gives("same(0, 0, 0)", 1).gives("same(0, 8, 1)", 1);
    }

    static void p34_refused() {
        Edges.promise(34, "(1; 2; 3; 4; 5).");
        Run x = Edges.land(WORDS + "line 1 delete a;", 1).wrongRows("same(T, N, 0)");
        x.refused("same(4, 9, 1)", 1).refused("same(2, 9, 1)", 2).refused("same(0, 0, -1)", 2);
    }

    /** The first LINE changes an a and a b about, so that on DAY 2 all is as on DAY 0; the second one needs a DAY ahead. */
    static void p35_circles() {
        Edges.promise(35, "In how many DAYS (1 to 500) a ROW put right DAY by DAY by a LINE is first as it was on a DAY ahead (how it is at first "
            + "counts)");
        Run x = Edges.land(WORDS + "line 1 for a read c for b read a for c read b;line 2 for a read b;line 3;line 4 after a insert a;"
            + "line 5 delete a;", 5).row(0, 0, 1).row(1, 0, 0, 0, 0, 0, 0, 0, 0);
        x.gives("circles(0, 2, 0)", 2).gives("circles(0, 2, 1)", 2).gives("circles(0, 2, 2)", 1).gives("circles(0, 0, 0)", 1);
        x.gives("circles(0, 1, 3)", 8).gives("circles(1, 8, 3)", 1).gives("circles(1, 8, 4)", 9).gives("circles(1, 0, 4)", 1);
        x.does("lose(0, true)").gives("circles(0, 2, 0)", 2).gives("many(4)", 0);
    }

    /**
     * Eight d's, DAY by DAY: b d d d d d d d, a b d d d d d d, up to a a a a a a a b on DAY 8; on DAY 9 there are eight a's,
     * each DAY on one less, none on DAY 17, and the same on DAY 18.
     */
    static void p35_aLongOne() {
        Edges.promise(35, "is first as it was on a DAY ahead");
        Run x = Edges.land(WORDS + "line 1 delete a after b insert a for b read a for d read b;", 1).row(0, 3, 3, 3, 3, 3, 3, 3, 3);
        x.gives("circles(0, 8, 0)", 18).gives("circles(0, 0, 0)", 1);
    }

    /** No LINE needs more than 18 DAYS (NOTES.md tells how all were looked at): 8 can't be seen. */
    static void p35_refused() {
        Edges.promise(35, "(1; 2; 3; 4; 5; 8: not in these).");
        Run x = Edges.land(WORDS + "line 1 delete a;", 1).wrongRows("circles(T, N, 0)");
        x.refused("circles(4, 9, 1)", 1).refused("circles(2, 9, 1)", 2).refused("circles(0, 0, -1)", 2);
    }

    // ---- ways

    static void p36_joined() {
        Edges.terms("JOINED are two LINES that are not LOST, if a WORD stands in EDITS of both (whatever place it has there), or if their numbers "
            + "are one behind the other.");
        Run x = Edges.land(WORDS + "line 10 delete a;line 20 for b read a;line 30 after c insert b;line 40 for c read d;line 41;line 43;"
            + "line 50 delete d;line 60 after d insert a;", 8);
        int[][] joined = {{0, 1}, {1, 2}, {2, 3}, {3, 4}, {3, 6}, {0, 7}, {1, 7}, {3, 7}, {6, 7}};
        for (int line = 0; line < 8; line++) {
            for (int other = line + 1; other < 8; other++) {
                boolean is = contains(joined, line, other);
                x.gives("joined(" + line + ", " + other + ")", is ? 1 : 0).gives("joined(" + other + ", " + line + ")", is ? 1 : 0);
            }
        }
    }

    private static boolean contains(int[][] pairs, int one, int other) {
        for (int[] pair : pairs) {
            if (pair[0] == one && pair[1] == other) {
                return true;
            }
        }
        return false;
    }

    static void p36_lost() {
        Edges.promise(36, "1 if two LINES are JOINED, else 0");
        Run x = Edges.land(WORDS + "line 1 delete a;line 9 delete a;line 8;", 3).gives("joined(0, 1)", 1).gives("joined(1, 2)", 1);
        x.does("lose(1, true)").gives("joined(0, 1)", 0).gives("joined(1, 0)", 0).gives("joined(2, 1)", 0);
        x.does("lose(1, false)").gives("joined(0, 1)", 1).does("strike(1, 0)").gives("joined(0, 1)", 0);
        x.does("amend(1, 1, 1, 0, false)").gives("joined(0, 1)", 0).does("amend(1, 2, 1, 0, false)").gives("joined(0, 1)", 1);
        Edges.land("line 998;line 999;", 2).gives("joined(0, 1)", 1).gives("joined(1, 0)", 1);
    }

    static void p36_refused() {
        Edges.promise(36, "(2; 9: one and itself).");
        Run x = Edges.land("line 1;line 2;", 2).refused("joined(0, 0)", 9).refused("joined(1, 1)", 9);
        x.refused("joined(2, 2)", 2).refused("joined(0, 2)", 2).refused("joined(-1, 0)", 2).refused("joined(0, " + MOST + ")", 2);
        x.does("lose(0, true)").refused("joined(0, 0)", 9);
    }

    static void p37_route() {
        Edges.terms("ROUTE: the fewest goings from a LINE to another one.");
        Run x = Edges.land("line 1;line 2;line 3;line 4;line 5;line 6;line 7;line 8;", 8).gives("route(0, 7)", 7).gives("route(7, 0)", 7);
        x.gives("route(2, 5)", 3).gives("route(6, 7)", 1);
        Edges.land("word a;line 1 delete a;line 2;line 3;line 4;line 5 delete a;", 5).gives("route(0, 4)", 1).gives("route(0, 3)", 2)
            .gives("route(1, 3)", 2).gives("route(1, 4)", 2);
    }

    static void p37_oneAndItself() {
        Edges.promise(37, "ROUTE (0: one and itself)");
        Run x = Edges.land("line 1;line 3;", 2).gives("route(0, 0)", 0).gives("route(1, 1)", 0);
        x.does("lose(1, true)").gives("route(1, 1)", 0);
    }

    static void p37_refused() {
        Edges.promise(37, "(2; 8: no way; one of both LOST: 8, too, but for one and itself).");
        Run x = Edges.land("line 1;line 2;line 3;line 5;", 4);
        x.refused("route(4, 4)", 2).refused("route(0, 4)", 2).refused("route(-1, 0)", 2).refused("route(0, " + LEAST + ")", 2);
        x.refused("route(0, 3)", 8).refused("route(3, 0)", 8).does("lose(1, true)").refused("route(0, 2)", 8).refused("route(0, 1)", 8);
        x.refused("route(1, 0)", 8).gives("route(1, 1)", 0).does("lose(0, true)").refused("route(0, 1)", 8);
    }

    static void p38_routeFirst() {
        Edges.promise(38, "The LINE to which that goes first, of several the first");
        Run x = Edges.land(WORDS + "line 10 delete a delete b;line 20 delete d;line 30 delete b delete d;line 40 delete a delete d;line 50;", 5);
        x.gives("routeFirst(0, 1)", 2).gives("routeFirst(1, 0)", 2).gives("routeFirst(0, 3)", 3).gives("routeFirst(2, 3)", 3);
        x.does("lose(2, true)").gives("routeFirst(0, 1)", 3);
        Run y = Edges.land("line 1;line 2;line 3;line 4;line 5;line 6;line 7;line 8;", 8);
        y.gives("routeFirst(0, 7)", 1).gives("routeFirst(7, 0)", 6).gives("routeFirst(3, 4)", 4);
    }

    static void p38_refused() {
        Edges.promise(38, "(2; 8; 9: one and itself).");
        Run x = Edges.land("line 1;line 2;line 5;", 3);
        x.refused("routeFirst(3, 3)", 2).refused("routeFirst(0, 3)", 2).refused("routeFirst(-1, 0)", 2).refused("routeFirst(0, -1)", 2);
        x.refused("routeFirst(0, 2)", 8).refused("routeFirst(0, 0)", 9).does("lose(1, true)").refused("routeFirst(0, 1)", 8);
        x.refused("routeFirst(1, 0)", 8).refused("routeFirst(1, 1)", 9);
    }

    static void p39_reach() {
        Edges.promise(39, "The set of LINES to which one comes from a LINE (that, too) (2).");
        Run x = Edges.land("word a;line 1;line 2;line 3 delete a;line 9 delete a;line 11;", 5);
        x.gives("reach(0)", 15).gives("reach(3)", 15).gives("reach(4)", 16).does("lose(2, true)").gives("reach(0)", 3).gives("reach(2)", 4);
        x.gives("reach(3)", 8).refused("reach(5)", 2).refused("reach(-1)", 2).refused("reach(" + MOST + ")", 2);
        Run y = Edges.land("line 8;line 6;line 4;line 2;line 1;line 3;line 5;line 7;", 8).gives("reach(0)", 255).gives("reach(4)", 255);
        y.does("lose(0, true)").gives("reach(7)", 254).gives("reach(0)", 1);
    }

    // ---- what is omitted

    static void p40_omitted() {
        Edges.promise(40, "How many numbers from one on to another one (1 to 999, the second no less) are those of no LINE, or a LOST one");
        Run x = Edges.land("line 1;line 5;line 6;line 999;", 4).gives("omitted(1, 999)", 995).gives("omitted(2, 998)", 995);
        x.gives("omitted(1, 1)", 0).gives("omitted(2, 2)", 1).gives("omitted(999, 999)", 0).gives("omitted(5, 6)", 0).gives("omitted(4, 7)", 2);
        x.does("lose(3, true)", "lose(1, true)").gives("omitted(1, 999)", 997).gives("omitted(999, 999)", 1).gives("omitted(5, 6)", 1);
    }

    static void p40_refused() {
        Edges.promise(40, "(5).");
        Run x = Edges.land("line 1;", 1).refused("omitted(0, 5)", 5).refused("omitted(1, 1000)", 5).refused("omitted(6, 5)", 5);
        x.refused("omitted(1000, 1000)", 5).refused("omitted(0, 0)", 5).refused("omitted(" + LEAST + ", " + MOST + ")", 5).refused("omitted(1, -1)", 5);
    }

    static void p41_nextOmitted() {
        Edges.promise(41, "The least number that is omitted so from one on (1 to 999)");
        Run x = Edges.land("line 1;line 5;line 6;line 998;", 4).gives("nextOmitted(1)", 2).gives("nextOmitted(5)", 7).gives("nextOmitted(4)", 4);
        x.gives("nextOmitted(998)", 999).gives("nextOmitted(999)", 999).does("lose(2, true)").gives("nextOmitted(5)", 6);
    }

    static void p41_refused() {
        Edges.promise(41, "(5; 8: none up to 999).");
        Run x = Edges.land("line 998;line 999;line 1;", 3).refused("nextOmitted(0)", 5).refused("nextOmitted(1000)", 5).refused("nextOmitted(-1)", 5);
        x.refused("nextOmitted(998)", 8).refused("nextOmitted(999)", 8).gives("nextOmitted(997)", 997);
        x.does("lose(1, true)").gives("nextOmitted(998)", 999);
    }
}
