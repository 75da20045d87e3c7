/** Promises 42 to 48: NEEDS, TEXTS, CLASH and GAMES. */
public final class BehindTest {
    private static final Checks C = new Checks();

    private static ErrataLand asking(String lines, int... row) {
        ErrataLand x = Checks.land("word a;word b;word c;word d;" + lines);
        Checks.fill(x, 0, row);
        return x;
    }

    public static void main(String[] args) {
        needs();
        needsOfAll();
        texts();
        textsOfAll();
        clash();
        clashAt();
        game();
        gameTurns();
        moveOf();
        wrongGames();
        C.end();
    }

    private static void needs(ErrataLand x, int line, int... row) {
        C.due(x, "needs(" + line + ")", x.needs(line), row.length, 0);
        for (int k = 0; k < row.length; k++) {
            C.due(x, "needsAt(" + line + ", " + k + ")", x.needsAt(line, k), row[k], 0);
        }
        C.no(x, "needsAt(" + line + ", " + row.length + ")", x.needsAt(line, row.length), 8);
        C.no(x, "needsAt(" + line + ", -1)", x.needsAt(line, -1), 8);
    }

    private static void needs() {
        C.about("promises 42 and 43");
        ErrataLand x = asking("line 1;line 2 delete c;line 3 for a read b for b read c;line 4 delete b delete a;"
            + "line 5 delete a passim delete a;line 6 delete d delete d delete d delete d;"
            + "line 7 after b insert a for a read d passim delete d delete d;"
            + "line 8 for b read a passim for a read c delete b delete c;");
        needs(x, 0);
        needs(x, 1, 2);
        needs(x, 2, 0);
        needs(x, 3, 0, 1);
        C.no(x, "needs(4)", x.needs(4), 8);
        C.no(x, "needsAt(4, 0)", x.needsAt(4, 0), 8);
        needs(x, 5, 3, 3, 3, 3);
        needs(x, 6, 0, 1);
        C.no(x, "needs(7): no b is left", x.needs(7), 8);
        x.lose(1, true);
        needs(x, 1, 2);
        C.no(x, "needs(8)", x.needs(8), 2);
        C.no(x, "needs(-1)", x.needs(-1), 2);
        C.no(x, "needsAt(8, 0)", x.needsAt(8, 0), 2);
        ErrataLand none = Checks.land("line 1;");
        needs(none, 0);
    }

    /** All lines of two edits out of some, held against what vain() says of all rows. */
    private static void needsOfAll() {
        C.about("promise 42, by vain()");
        for (int one = 0; one < 54; one++) {
            for (int two = 0; two < 54; two += 5) {
                ErrataLand x = new ErrataLand();
                Checks.slip(x, "word a;word b;word c;line 1;");
                x.amend(0, one % 3, one / 3 % 3, one / 9 % 3, one / 27 == 1);
                x.amend(0, two % 3, two / 3 % 3, two / 9 % 3, two / 27 == 1);
                int due = -1;
                for (int code = 0; code < 40 && due < 0; code++) {
                    int size = code < 1 ? 0 : code < 4 ? 1 : code < 13 ? 2 : 3;
                    int rest = code - (size == 0 ? 0 : size == 1 ? 1 : size == 2 ? 4 : 13);
                    Checks.fill(x, 0, size == 3 ? rest / 9 : size == 2 ? rest / 3 : rest, size == 3 ? rest / 3 % 3 : rest % 3,
                        rest % 3);
                    due = x.vain(0, size, 0) == 0 ? size : -1;
                }
                C.due("needs of " + one + " and " + two, x.needs(0), due);
                for (int k = 0; k < due; k++) {
                    C.due("needsAt of " + one + " and " + two, x.needsAt(0, k), x.read(0, k));
                }
            }
        }
    }

    private static void texts() {
        C.about("promise 44");
        ErrataLand x = asking("line 1 for a read b;line 2 delete a;line 3;line 4 delete a passim;line 5 after a insert b;", 1, 1, 2);
        C.due(x, "texts by for: the first or the second", x.texts(0, 3, 0, 3), 2, 0);
        C.due(x, "texts of other lengths", x.texts(0, 3, 0, 4), 0, 0);
        C.due(x, "texts by delete: ahead of each word, or last", x.texts(0, 3, 1, 4), 4, 0);
        C.due(x, "texts by nothing", x.texts(0, 3, 2, 3), 1, 0);
        C.due(x, "texts of nothing by nothing", x.texts(0, 0, 2, 0), 1, 0);
        C.due(x, "texts by delete passim, one", x.texts(0, 3, 3, 4), 4, 0);
        C.due(x, "texts by delete passim, two", x.texts(0, 3, 3, 5), 10, 0);
        C.due(x, "texts by delete passim, none is in vain", x.texts(0, 3, 3, 3), 0, 0);
        C.due(x, "texts by after, none", x.texts(0, 3, 4, 2), 0, 0);
        Checks.fill(x, 0, 2, 0, 1, 3, 0, 1, 5);
        C.due(x, "texts by after", x.texts(0, 6, 4, 5), 1, 0);
        C.due(x, "texts of 4 words", x.texts(0, 4, 4, 3), 1, 0);
        C.no(x, "texts, m of 6", x.texts(0, 1, 0, 6), 5);
        C.no(x, "texts, m below 0", x.texts(0, 1, 0, -1), 5);
        C.no(x, "texts, no word", x.texts(0, 7, 0, 2), 5);
        C.no(x, "texts, too few", x.texts(0, 8, 0, 9), 4);
        C.no(x, "texts, missing", x.texts(1, 8, 0, 9), 3);
        C.no(x, "texts, no line", x.texts(1, 8, 5, 9), 2);
        C.no(x, "texts, no tray", x.texts(4, 8, 5, 9), 1);
        x.lose(2, true);
        C.due(x, "texts, lost", x.texts(0, 3, 2, 3), 1, 0);
        C.due(x, "texts of nothing at all by delete", x.texts(0, 0, 1, 1), 1, 0);
    }

    /** Texts of 2 words by a line come out as some row each, or have an edit in vain. */
    private static void textsOfAll() {
        C.about("promise 44, all in all");
        ErrataLand x = asking("line 1 for a read b after c insert d;");
        int found = 0;
        for (int row = 0; row < 64; row++) {
            Checks.fill(x, 0, row / 16, row / 4 % 4, row % 4);
            found += x.texts(0, 3, 0, 2);
        }
        C.due("texts with an a and a c", found, 2);
        ErrataLand all = Checks.land("word a;word b;word c;word d;word e;word f;word g;word h;line 1 delete h passim;");
        all.tray(0, 0, 0);
        C.due(all, "texts of five h", all.texts(0, 0, 0, 5), 1, 0);
    }

    private static void clash() {
        C.about("promise 45");
        ErrataLand x = asking("line 1 for a read b;line 2 for b read c;line 3 delete d;line 4;line 5 delete b passim;"
            + "line 6 after c insert c after c insert c;line 7 delete c delete c delete c;");
        C.due(x, "clash(0, 1): a", x.clash(0, 1), 1, 0);
        C.due(x, "clash(1, 0): a", x.clash(1, 0), 1, 0);
        C.no(x, "clash(0, 2)", x.clash(0, 2), 8);
        C.no(x, "clash(0, 3)", x.clash(0, 3), 8);
        C.due(x, "clash(0, 4): a", x.clash(0, 4), 1, 0);
        C.due(x, "clash(5, 6): c c, as c alone goes both ways", x.clash(5, 6), 2, 0);
        x.lose(0, true);
        C.due(x, "clash(0, 1), lost", x.clash(0, 1), 1, 0);
        C.no(x, "clash(3, 3)", x.clash(3, 3), 9);
        C.no(x, "clash(0, 0)", x.clash(0, 0), 9);
        C.no(x, "clash(7, 7)", x.clash(7, 7), 2);
        C.no(x, "clash(0, -1)", x.clash(0, -1), 2);
    }

    private static void clashAt() {
        C.about("promise 46");
        ErrataLand x = asking("line 1 delete b delete b delete b passim after a insert c;line 2 delete b for c read a;line 3 delete d;");
        int size = x.clash(0, 1);
        C.due("clash(0, 1): a and then c comes to be a", size, 1);
        C.due(x, "clashAt(0, 1, 0)", x.clashAt(0, 1, 0), 0, 0);
        C.no(x, "clashAt(0, 1, 1)", x.clashAt(0, 1, 1), 8);
        C.no(x, "clashAt(0, 1, -1)", x.clashAt(0, 1, -1), 8);
        C.no(x, "clashAt(1, 2, 0)", x.clashAt(1, 2, 0), 8);
        C.no(x, "clashAt(0, 0, 9)", x.clashAt(0, 0, 9), 9);
        C.no(x, "clashAt(3, 0, 0)", x.clashAt(3, 0, 0), 2);
        ErrataLand y = asking("line 1 for a read b;line 2 after d insert a;"
            + "line 3 for d read a;line 4 delete d after d insert c;line 5 delete d;");
        C.due(y, "clash(0, 1): d", y.clash(0, 1), 1, 0);
        C.due(y, "clashAt(0, 1, 0)", y.clashAt(0, 1, 0), 3, 0);
        C.due(y, "clash(3, 4): d d", y.clash(3, 4), 2, 0);
        C.due(y, "clashAt(3, 4, 0)", y.clashAt(3, 4, 0), 3, 0);
        C.due(y, "clashAt(3, 4, 1)", y.clashAt(3, 4, 1), 3, 0);
        C.due(y, "clashAt(4, 3, 1)", y.clashAt(4, 3, 1), 3, 0);
        // a b b: by the first a a, and then a; by the second nothing is left
        ErrataLand z = asking("line 1 delete b for b read a passim;line 3 delete a delete b passim;"
            + "line 5 delete b delete b for b read a passim;");
        C.due(z, "clash(0, 1): a b b", z.clash(0, 1), 3, 0);
        for (int k = 0; k < 3; k++) {
            C.due(z, "clashAt(0, 1, " + k + ")", z.clashAt(0, 1, k), k == 0 ? 0 : 1, 0);
        }
        C.no(z, "clash(2, 1): a b b b is too long", z.clash(2, 1), 8);
        C.no(z, "clashAt(2, 1, 0)", z.clashAt(2, 1, 0), 8);
    }

    private static void game() {
        C.about("promise 47");
        ErrataLand x = asking("line 1 for a read b for c read a delete b passim;line 2;", 0, 2, 1, 1);
        C.due(x, "game of no turns", x.game(0, 4, 0, 0, 1, 0), -1, 0);
        C.due(x, "game of no turns, the other way", x.game(0, 4, 0, 1, 0, 0), 1, 0);
        C.due(x, "game of one turn: all b go", x.game(0, 4, 0, 0, 1, 1), 1, 0);
        C.due(x, "game of two: a becomes b behind that", x.game(0, 4, 0, 0, 1, 2), -1, 0);
        C.due(x, "game of three: c becomes a, a becomes b, all b go", x.game(0, 4, 0, 0, 1, 3), 1, 0);
        C.due(x, "game of a line of nothing", x.game(0, 4, 1, 0, 1, 4), -1, 0);
        C.due(x, "game of nothing", x.game(0, 0, 0, 0, 1, 4), 0, 0);
        x.lose(0, true);
        C.due(x, "game, lost", x.game(0, 4, 0, 0, 1, 1), 1, 0);
    }

    private static void gameTurns() {
        C.about("promise 47, turns");
        ErrataLand x = asking("line 1 after a insert a after a insert a after a insert a after a insert a;", 0);
        int[] due = {1, 2, 2, 3, 3};
        for (int turns = 0; turns < due.length; turns++) {
            C.due(x, "game of " + turns, x.game(0, 1, 0, 0, 1, turns), due[turns], 0);
        }
        ErrataLand y = asking("line 1 delete a;", 0, 1);
        C.due(y, "an edit is done but once", y.game(0, 2, 0, 1, 0, 1), 1, 0);
        C.due(y, "the second keeps from it", y.game(0, 2, 0, 0, 1, 1), 0, 0);
        C.due(y, "the second does it", y.game(0, 2, 0, 0, 1, 2), -1, 0);
        ErrataLand z = asking("line 1 for a read c delete a;", 0, 1);
        C.due(z, "the first takes it from the second", z.game(0, 2, 0, 0, 1, 2), -1, 0);
    }

    private static void moveOf() {
        C.about("promise 48");
        ErrataLand x = asking("line 1 for a read b for c read a delete b passim;line 2;line 3 delete a;line 4 delete d delete b;", 0, 2, 1, 1);
        C.due(x, "moveOf of one turn", x.moveOf(0, 4, 0, 0, 1, 1), 2, 0);
        C.due(x, "moveOf, the other way", x.moveOf(0, 4, 0, 1, 0, 1), 0, 0);
        C.no(x, "moveOf a line of nothing", x.moveOf(0, 4, 1, 0, 1, 1), 8);
        C.no(x, "moveOf: nothing is best", x.moveOf(0, 4, 2, 0, 1, 1), 8);
        C.due(x, "moveOf: all are as good", x.moveOf(0, 0, 0, 0, 1, 3), 0, 0);
        C.due(x, "moveOf: one in vain is as good as nothing", x.moveOf(0, 4, 3, 1, 0, 1), 0, 0);
        C.no(x, "moveOf of no turns", x.moveOf(0, 4, 0, 0, 1, 0), 5);
        C.due(x, "moveOf of two turns", x.moveOf(0, 4, 0, 0, 1, 2), 2, 0);
        C.due(x, "moveOf of three turns", x.moveOf(0, 4, 0, 0, 1, 3), 1, 0);
    }

    private static int statusOf(ErrataLand x, boolean move, int tray, int n, int line, int a, int b, int turns) {
        if (move) {
            x.moveOf(tray, n, line, a, b, turns);
        } else {
            x.game(tray, n, line, a, b, turns);
        }
        return x.status();
    }

    private static void wrongGames() {
        ErrataLand x = asking("line 1 for a read b;", 0, 1, 4);
        for (int i = 0; i < 2; i++) {
            boolean move = i == 1;
            C.about(move ? "wrong calls of moveOf" : "wrong calls of game");
            C.due("good", statusOf(x, move, 0, 2, 0, 1, 0, 1), 0);
            C.due("no tray", statusOf(x, move, 4, 9, 9, 9, 9, 9), 1);
            C.due("no line", statusOf(x, move, 1, 9, 1, 0, 1, 9), 2);
            C.due("no word x", statusOf(x, move, 1, 9, 0, 4, 1, 9), 2);
            C.due("no word y", statusOf(x, move, 1, 9, 0, 1, -1, 9), 2);
            C.due("missing", statusOf(x, move, 1, 9, 0, 1, 1, 9), 3);
            C.due("too few", statusOf(x, move, 0, 4, 0, 1, 1, 9), 4);
            C.due("no word in the row", statusOf(x, move, 0, 3, 0, 1, 0, 1), 5);
            C.due("one word and itself", statusOf(x, move, 0, 2, 0, 1, 1, 1), 5);
            C.due("5 turns", statusOf(x, move, 0, 2, 0, 0, 1, 5), 5);
            C.due("-1 turns", statusOf(x, move, 0, 2, 0, 0, 1, -1), 5);
            C.due("no turns", statusOf(x, move, 0, 2, 0, 0, 1, 0), move ? 5 : 0);
            C.due("4 turns", statusOf(x, move, 0, 2, 0, 1, 0, 4), 0);
        }
    }
}
