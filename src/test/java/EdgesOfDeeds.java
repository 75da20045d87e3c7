/** Promises 21 to 28, sentence by sentence: what is done. */
final class EdgesOfDeeds {
    private static final String MOST = "2147483647";
    private static final String LEAST = "-2147483648";

    private EdgesOfDeeds() {
    }

    /** A new run on DAY 9,999 - left. */
    private static Run lastDays(String slip, int lines, int left) {
        Run x = Edges.land(slip, lines);
        for (int gone = 0; gone < 9999 - left; gone += Math.min(99, 9999 - left - gone)) {
            x.does("day(" + Math.min(99, 9999 - left - gone) + ")");
        }
        return x.gives("many(4)", 9999 - left);
    }

    // ---- day

    static void p21_editByEdit() {
        Edges.terms("A LINE puts a ROW (0 to 8 WORDS) right, EDIT by EDIT, as they stand:");
        Run x = Edges.land("word a;word b;word c;line 1 for a read b for b read c;line 5 for b read c for a read b;"
            + "person p at 1 says a;person q at 5 says a;person r at 1;person s at 5 says a b a b a b a b;", 2);
        x.gives("day(1)", 11).says(0, "2").says(1, "1").says(2, "").says(3, "12010101");
    }

    static void p21_aDay() {
        Edges.terms("A DAY goes by (to 9,999): what each PERSON says is put right by the LINE where he is, if that is not LOST. Then the DAY is "
            + "1 more.");
        Run x = Edges.land("word a;line 1 delete a;line 2 delete a;person p at 1 says a a;person q at 2 says a a;person r at 2 says a;", 2);
        x.does("lose(1, true)").gives("day(1)", 1).says(0, "0").says(1, "00").says(2, "0").gives("many(4)", 1);
        x.does("lose(1, false)").gives("day(1)", 7).says(0, "").says(1, "0").says(2, "").gives("many(4)", 2);
    }

    static void p21_theSet() {
        Edges.promise(21, "So many DAYS (1 to 99): the set of PEOPLE who say something else then than ahead");
        Run x = Edges.land("word a;word b;word c;line 1 for a read c for b read a for c read b;line 9;"
            + "person p at 9 says a;person q at 1;person r at 1 says a;person s at 1 says c;person t at 9;person u at 1 says b a;", 2);
        x.gives("day(1)", 44).says(2, "1").says(3, "1").says(5, "01");
        x.gives("day(2)", 0).says(2, "1").gives("many(4)", 3);
        x.gives("day(99)", 44).says(2, "0").says(5, "10").gives("many(4)", 102);
    }

    static void p21_oneToNinetyNine() {
        Edges.promise(21, "(5; 7: above 9,999).");
        Run x = Edges.land("word a;line 1 delete a;person p at 1 says a;", 1);
        x.refused("day(0)", 5).refused("day(-1)", 5).refused("day(100)", 5).refused("day(" + MOST + ")", 5).refused("day(" + LEAST + ")", 5);
        x.gives("day(1)", 1).gives("day(99)", 0).gives("many(4)", 100);
    }

    static void p21_above9999() {
        Edges.promise(21, "7: above 9,999).");
        String slip = "word a;line 1 delete a;person p at 1;";
        Run x = lastDays(slip, 1, 2).row(0, 0).does("teach(0, 0, 1)");
        x.refused("day(3)", 7).refused("day(99)", 7).refused("day(100)", 5).refused("day(0)", 5);
        x.gives("day(2)", 1).gives("many(4)", 9999).refused("day(1)", 7);
        lastDays(slip, 1, 99).gives("day(99)", 0).gives("many(4)", 9999);
    }

    // ---- what EDITS do

    /** What a LINE of these EDITS makes of a ROW in a DAY; WORDS are a to d. */
    private static void makes(String edits, String row, String due) {
        StringBuilder said = new StringBuilder();
        for (int k = 0; k < row.length(); k++) {
            said.append(' ').append((char) (row.charAt(k) - '0' + 'a'));
        }
        String person = row.isEmpty() ? "person p at 1;" : "person p at 1 says" + said + ";";
        Edges.land("word a;word b;word c;word d;line 1 " + edits + ";" + person, 1).does("day(1)").says(0, due);
    }

    static void p21_forRead() {
        Edges.terms("FOR a READ b: the first a becomes b; with PASSIM each a that stands there ahead of it.");
        makes("for a read b", "2030", "2130");
        makes("for a read b", "1", "1");
        makes("for a read b", "", "");
        makes("for a read b passim", "20300", "21311");
        makes("for a read b passim", "00000000", "11111111");
        makes("for a read b passim for b read a passim", "0123", "0023");
        makes("for a read b for a read b", "000", "110");
    }

    static void p21_delete() {
        Edges.terms("DELETE a: the first a goes; with PASSIM all.");
        makes("delete a", "2030", "230");
        makes("delete a", "0", "");
        makes("delete a", "123", "123");
        makes("delete a passim", "02003010", "231");
    }

    static void p21_afterInsert() {
        Edges.terms("AFTER a INSERT b: b comes behind the first a; it is in VAIN if there are 8 WORDS.");
        makes("after a insert b", "20330", "201330");
        makes("after a insert b", "220", "2201");
        makes("after a insert a", "20", "200");
        makes("after a insert b", "2222220", "22222201");
        makes("after a insert b", "0222222", "01222222");
        makes("after a insert b", "22222220", "22222220");
        makes("after a insert b", "02222222", "02222222");
        makes("after a insert b delete a after c insert d", "02222222", "23222222");
        makes("after a insert b after a insert c", "0333333", "01333333");
    }

    static void p21_inVainWithout() {
        Edges.terms("An EDIT is in VAIN, too, if there is no a.");
        makes("for a read b delete a after a insert b", "1", "1");
        makes("delete a delete a for b read c", "01", "2");
        makes("for a read b passim delete a passim after a insert c", "", "");
    }

    // ---- go, lose

    static void p22_go() {
        Edges.terms("GO: a PERSON goes to a LINE that is JOINED with his.");
        Edges.promise(22, "GO: how many PEOPLE are at that LINE then");
        Run x = Edges.land("word a;line 1;line 2 delete a;line 9 delete a;person p at 1;person q at 9;person r at 9;", 3);
        x.gives("go(0, 1)", 1).gives("placeOf(0)", 1).gives("go(0, 2)", 3).gives("line(2, 4)", 7).gives("line(1, 4)", 0);
        x.gives("go(2, 1)", 1).gives("line(1, 4)", 4);
        Run y = Edges.land("line 1;line 2;person p at 1;person q at 1;person r at 1;person s at 1;person t at 1;person u at 2;", 2);
        y.gives("go(5, 0)", 6).gives("line(0, 4)", 63);
    }

    static void p22_refused() {
        Edges.promise(22, "(2; 9: not JOINED, his own).");
        Run x = Edges.land("line 1;line 2;line 4;person p at 1;person q at 4;", 3);
        x.refused("go(2, 0)", 2).refused("go(-1, 0)", 2).refused("go(0, 3)", 2).refused("go(0, -1)", 2).refused("go(" + MOST + ", 9)", 2);
        x.refused("go(0, 0)", 9).refused("go(0, 2)", 9).refused("go(1, 1)", 9).refused("go(1, 2)", 9);
        x.does("lose(1, true)").refused("go(0, 1)", 9).does("lose(1, false)", "lose(0, true)").refused("go(0, 1)", 9);
        x.refused("go(0, 0)", 9).does("lose(0, false)").gives("go(0, 1)", 1);
    }

    static void p23_lose() {
        Edges.promise(23, "A LINE is LOST, or there again");
        Run x = Edges.land("line 1;line 2;", 2).gives("lose(1, true)", 1).gives("line(1, 2)", 1).gives("line(0, 2)", 0);
        x.gives("lose(1, false)", 1).gives("line(1, 2)", 0);
    }

    static void p23_refused() {
        Edges.promise(23, "(2; 9: it is so).");
        Run x = Edges.land("line 1;line 2;", 2).refused("lose(0, false)", 9).does("lose(0, true)").refused("lose(0, true)", 9);
        x.does("lose(0, false)").refused("lose(0, false)", 9);
        x.refused("lose(2, true)", 2).refused("lose(-1, false)", 2).refused("lose(" + LEAST + ", true)", 2);
    }

    static void p23_keepsItsPeople() {
        Edges.terms("A LINE that is LOST keeps its people.");
        Run x = Edges.land("line 1;line 2;person p at 1;person q at 2;", 2).does("lose(0, true)");
        x.gives("placeOf(0)", 0).gives("line(0, 4)", 1).gives("many(2)", 2);
    }

    // ---- teach

    static void p24_teach() {
        Edges.promise(24, "A PERSON says a ROW: how many WORDS it has");
        Run x = Edges.land("word a;word b;line 1;person p at 1 says b;person q at 1 says a;", 1).row(0, 0, 1, 0, 1, 0, 1, 0, 1, 7);
        x.gives("teach(0, 0, 8)", 8).says(0, "01010101").says(1, "0").gives("teach(0, 0, 1)", 1).says(0, "0");
        x.gives("teach(0, 0, 0)", 0).says(0, "").does("tray(1, 0, 0)").gives("teach(1, 1, 0)", 0).says(1, "");
    }

    static void p24_rowsInTrays() {
        Edges.terms("ROWS are told in TRAYS: the first n numbers (0 to 8), each a WORD.");
        for (int sort = 0; sort < 4; sort++) {
            Run x = Edges.land("word a;word b;line 1;person p at 1;", 1).does("tray(0, " + sort + ", 2)", "write(0, 0, 1)");
            x.gives("teach(0, 0, 2)", 2).says(0, "10").does("write(0, 1, 2)").refused("teach(0, 0, 2)", 5).gives("teach(0, 0, 1)", 1);
            x.says(0, "1");
        }
        Edges.land("line 1;person p at 1;", 1).row(0, 0).gives("teach(0, 0, 0)", 0).refused("teach(0, 0, 1)", 5);
    }

    static void p24_refused() {
        Edges.promise(24, "(1; 2; 3; 4; 5).");
        Run x = Edges.land("word a;word b;word c;word d;line 1;person p at 1 says b b;", 1).wrongRows("teach(0, T, N)");
        x.refused("teach(1, 4, 9)", 1).refused("teach(1, 2, 9)", 2).refused("teach(-1, 0, 0)", 2);
    }

    // ---- amend, strike, swap, rule

    static void p25_amend() {
        Edges.promise(25, "An EDIT more of a LINE, behind those it has (kind 0, 1, 2 as in edit(); other is not looked at for DELETE; PASSIM not "
            + "for AFTER): how many it has");
        Run x = Edges.land("word a;word b;line 1 delete b;", 1);
        x.gives("amend(0, 0, 0, 1, true)", 2).gives("edit(0, 1, 0)", 0).gives("edit(0, 1, 1)", 0).gives("edit(0, 1, 2)", 1);
        x.gives("edit(0, 1, 3)", 1).gives("edit(0, 0, 0)", 1);
        x.gives("amend(0, 1, 0, " + MOST + ", false)", 3).gives("edit(0, 2, 0)", 1).refused("edit(0, 2, 2)", 8).gives("edit(0, 2, 3)", 0);
        x.gives("amend(0, 2, 1, 1, true)", 4).gives("edit(0, 3, 0)", 2).gives("edit(0, 3, 2)", 1).gives("edit(0, 3, 3)", 0);
        Edges.land("word a;line 1;", 1).gives("amend(0, 1, 0, 0, true)", 1).gives("edit(0, 0, 3)", 1).gives("line(0, 3)", 1);
        Edges.land("word a;word b;line 1;", 1).gives("amend(0, 1, 1, 0, false)", 1).gives("line(0, 3)", 2);
        Edges.land("word a;word b;line 1;", 1).gives("amend(0, 0, 1, 0, false)", 1).gives("edit(0, 0, 3)", 0);
    }

    static void p25_refused() {
        Edges.promise(25, "(2: LINE, WORDS; 5: no such kind, FOR a WORD and itself; 7: a fifth).");
        Run x = Edges.land("word a;word b;line 1 delete a delete a delete a;", 1);
        x.refused("amend(1, 0, 0, 1, false)", 2).refused("amend(-1, 3, 0, 0, false)", 2).refused("amend(0, 0, 2, 1, false)", 2);
        x.refused("amend(0, 0, -1, 1, false)", 2).refused("amend(0, 0, 0, 2, false)", 2).refused("amend(0, 2, 0, 2, false)", 2);
        x.refused("amend(0, 2, 0, -1, false)", 2).refused("amend(0, 1, 2, 0, false)", 2).refused("amend(0, 0, 2, 2, false)", 2);
        x.refused("amend(0, 3, 0, 1, false)", 5).refused("amend(0, -1, 0, 1, false)", 5).refused("amend(0, " + LEAST + ", 0, 1, false)", 5);
        x.refused("amend(0, 0, 1, 1, false)", 5).refused("amend(0, 0, 1, 1, true)", 5);
        x.gives("amend(0, 2, 1, 0, false)", 4).refused("amend(0, 2, 1, 0, false)", 7).refused("amend(0, 1, 1, 0, true)", 7);
        x.refused("amend(0, 0, 0, 0, false)", 5).refused("amend(0, 4, 0, 1, false)", 5).refused("amend(0, 1, 2, 1, false)", 2);
        x.does("strike(0, 0)").gives("amend(0, 0, 0, 1, false)", 4);
    }

    static void p26_strike() {
        Edges.promise(26, "An EDIT is struck; those behind it are a number less: how many the LINE has then");
        Run x = Edges.land("word a;word b;word c;word d;line 1 delete a delete b delete c delete d;line 5 delete a;", 2);
        x.gives("strike(0, 3)", 3).gives("edit(0, 2, 1)", 2).gives("strike(0, 0)", 2).gives("edit(0, 0, 1)", 1).gives("edit(0, 1, 1)", 2);
        x.gives("strike(0, 1)", 1).gives("edit(0, 0, 1)", 1).gives("strike(0, 0)", 0).gives("line(0, 1)", 0).gives("line(1, 1)", 1);
    }

    static void p26_refused() {
        Edges.promise(26, "(2).");
        Run x = Edges.land("word a;line 1 delete a;line 2;", 2);
        x.refused("strike(0, 1)", 2).refused("strike(0, -1)", 2).refused("strike(1, 0)", 2).refused("strike(2, 0)", 2);
        x.refused("strike(-1, 0)", 2).does("strike(0, 0)").refused("strike(0, 0)", 2);
    }

    static void p27_swap() {
        Edges.promise(27, "Two EDITS of a LINE change places");
        Run x = Edges.land("word a;word b;line 1 delete a passim delete b after a insert b for b read a;", 1);
        x.gives("swap(0, 0, 3)", 1).gives("edit(0, 0, 0)", 0).gives("edit(0, 0, 2)", 0).gives("edit(0, 3, 0)", 1).gives("edit(0, 3, 3)", 1);
        x.gives("edit(0, 1, 1)", 1).gives("edit(0, 2, 0)", 2).gives("swap(0, 2, 1)", 1).gives("edit(0, 1, 0)", 2).gives("edit(0, 2, 1)", 1);
    }

    static void p27_refused() {
        Edges.promise(27, "(2; 9: one and itself).");
        Run x = Edges.land("word a;word b;line 1 delete a delete b;line 2;", 2);
        x.refused("swap(0, 0, 0)", 9).refused("swap(0, 1, 1)", 9).refused("swap(0, 2, 2)", 2).refused("swap(0, 0, 2)", 2);
        x.refused("swap(0, 2, 0)", 2).refused("swap(0, -1, 0)", 2).refused("swap(0, 0, -1)", 2).refused("swap(0, -1, -1)", 2);
        x.refused("swap(1, 0, 1)", 2).refused("swap(2, 0, 1)", 2).refused("swap(-1, 0, 1)", 2);
    }

    static void p28_rule() {
        Edges.promise(28, "ODDS from now on (0 to 16) (5).");
        Run x = Edges.land("odds 5;word a;line 1 delete a;", 1).row(0, 0);
        x.gives("rule(16)", 1).gives("many(3)", 16).gives("chance(0, 1, 0, 0, 0)", 1).fraction(0, 1);
        x.gives("rule(0)", 1).gives("many(3)", 0).gives("chance(0, 1, 0, 0, 0)", 1).fraction(1, 1);
        x.refused("rule(17)", 5).refused("rule(-1)", 5).refused("rule(" + MOST + ")", 5).refused("rule(" + LEAST + ")", 5);
    }
}
