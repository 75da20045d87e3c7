/** Promises 49 to 53, sentence by sentence: what will be, if only DAYS go by. */
final class EdgesOfFuture {
    private static final String MOST = "2147483647";
    private static final String LEAST = "-2147483648";
    /** The first LINE makes of an a a b and of a b an a; the second one deletes an a a DAY. */
    private static final String SLIP = "word a;word b;word c;line 1 for a read c for b read a for c read b;line 5 delete a;line 9;"
        + "person p at 1 says a;person q at 5 says a a a a a a a a;person r at 9 says b;person s at 9;";

    private EdgesOfFuture() {
    }

    static void p49_longIn() {
        Edges.promise(49, "How many WORDS a PERSON says in so many DAYS (0 to 500)");
        Run x = Edges.land(SLIP, 3);
        for (int days = 0; days <= 9; days++) {
            x.gives("longIn(1, " + days + ")", Math.max(8 - days, 0));
        }
        x.gives("longIn(1, 500)", 0).gives("longIn(0, 500)", 1).gives("longIn(3, 0)", 0).gives("longIn(2, 500)", 1);
        x.gives("many(4)", 0).gives("length(1)", 8).does("lose(1, true)").gives("longIn(1, 500)", 8);
    }

    static void p49_refused() {
        Edges.promise(49, "(2; 5).");
        Run x = Edges.land(SLIP, 3).refused("longIn(0, 501)", 5).refused("longIn(0, -1)", 5).refused("longIn(0, " + MOST + ")", 5);
        x.refused("longIn(4, 501)", 2).refused("longIn(-1, 0)", 2).refused("longIn(4, " + LEAST + ")", 2);
    }

    /** Ahead of these calls the interface says: if only DAYS go by (DAY 9,999 does not matter). */
    static void p49_theLastDayDoesNotMatter() {
        Edges.promise(49, "in so many DAYS (0 to 500)");
        Run x = Edges.land("word a;word b;line 1 delete a;person p at 1;person q at 1;", 1);
        for (int i = 0; i < 101; i++) {
            x.does("day(99)");
        }
        x.row(0, 1, 0, 0).does("teach(0, 0, 3)", "teach(1, 0, 1)").gives("many(4)", 9999).refused("day(1)", 7);
        x.gives("longIn(0, 1)", 2).gives("longIn(0, 500)", 1).gives("sayIn(0, 2, 0)", 1).gives("alikeIn(0, 2)", 2).refused("silentIn(0)", 8);
        x.gives("saysFirst(0, 0)", 0).gives("many(4)", 9999);
    }

    static void p50_sayIn() {
        Edges.promise(50, "The k-th WORD that he says then");
        Run x = Edges.land(SLIP, 3).gives("sayIn(0, 0, 0)", 0).gives("sayIn(0, 1, 0)", 1).gives("sayIn(0, 2, 0)", 0);
        x.gives("sayIn(0, 499, 0)", 1).gives("sayIn(0, 500, 0)", 0).gives("sayIn(1, 0, 7)", 0).gives("sayIn(1, 1, 6)", 0);
        x.gives("says(0, 0)", 0).does("lose(0, true)").gives("sayIn(0, 499, 0)", 0);
    }

    static void p50_refused() {
        Edges.promise(50, "(2; 5; 8: no such).");
        Run x = Edges.land(SLIP, 3).refused("sayIn(1, 0, 8)", 8).refused("sayIn(1, 1, 7)", 8).refused("sayIn(1, 8, 0)", 8);
        x.refused("sayIn(0, 0, -1)", 8).refused("sayIn(0, 500, " + MOST + ")", 8).refused("sayIn(3, 500, 0)", 8);
        x.refused("sayIn(3, 501, 0)", 5).refused("sayIn(3, -1, 9)", 5).refused("sayIn(4, 501, 9)", 2).refused("sayIn(-1, 0, 0)", 2);
    }

    static void p51_saysFirst() {
        Edges.promise(51, "In how many DAYS (0 to 500) he says a WORD first");
        Run x = Edges.land("word a;word b;word c;word d;word e;line 1 for d read e for c read d for b read c for a read b;"
            + "person p at 1 says a;person q at 1 says d a;", 1);
        for (int word = 0; word < 5; word++) {
            x.gives("saysFirst(0, " + word + ")", word);
        }
        x.gives("saysFirst(1, 3)", 0).gives("saysFirst(1, 0)", 0).gives("saysFirst(1, 4)", 1).gives("saysFirst(1, 1)", 1).gives("many(4)", 0);
    }

    static void p51_refused() {
        Edges.promise(51, "(2; 8: in none).");
        Run x = Edges.land(SLIP, 3).refused("saysFirst(0, 2)", 8).refused("saysFirst(3, 0)", 8).refused("saysFirst(2, 0)", 8);
        x.refused("saysFirst(4, 0)", 2).refused("saysFirst(-1, 0)", 2).refused("saysFirst(0, 3)", 2).refused("saysFirst(0, -1)", 2);
        x.refused("saysFirst(0, " + MOST + ")", 2).gives("saysFirst(0, 1)", 1).does("lose(0, true)").refused("saysFirst(0, 1)", 8);
    }

    static void p52_silentIn() {
        Edges.promise(52, "In how many DAYS (0 to 500) he says nothing first");
        Run x = Edges.land(SLIP, 3).gives("silentIn(1)", 8).gives("silentIn(3)", 0).does("day(1)").gives("silentIn(1)", 7);
        x.does("day(7)").gives("silentIn(1)", 0);
    }

    /** On DAY 2 a b d d d d d d, on DAY 9 eight a's, and one less each DAY on (EdgesOfLines has all of it). */
    static void p52_inSeventeenDays() {
        Edges.promise(52, "In how many DAYS (0 to 500) he says nothing first");
        Run x = Edges.land("word a;word b;word d;line 1 delete a after b insert a for b read a for d read b;"
            + "person p at 1 says d d d d d d d d;", 1);
        x.gives("silentIn(0)", 17).gives("saysFirst(0, 0)", 2).gives("longIn(0, 9)", 8).gives("longIn(0, 16)", 1).gives("longIn(0, 17)", 0);
    }

    static void p52_refused() {
        Edges.promise(52, "(2; 8: in none).");
        Run x = Edges.land(SLIP, 3).refused("silentIn(0)", 8).refused("silentIn(2)", 8).refused("silentIn(4)", 2).refused("silentIn(-1)", 2);
        x.refused("silentIn(" + LEAST + ")", 2).does("lose(1, true)").refused("silentIn(1)", 8);
    }

    /** p says a on even DAYS and b on odd ones; q and t say nothing from DAY 1 on. */
    static void p53_alikeIn() {
        Edges.promise(53, "The set of PEOPLE who say the same as a PERSON in so many DAYS (0 to 500), himself not");
        Run x = Edges.land("word a;word b;word c;line 1 for a read c for b read a for c read b;line 5 delete a;line 9;person p at 1 says a;"
            + "person q at 5 says a;person r at 9 says b;person s at 9 says b b;person t at 9;person u at 9 says a;", 3);
        x.gives("alikeIn(0, 0)", 34).gives("alikeIn(0, 1)", 4).gives("alikeIn(0, 2)", 32).gives("alikeIn(0, 499)", 4).gives("alikeIn(0, 500)", 32);
        x.gives("alikeIn(1, 1)", 16).gives("alikeIn(4, 0)", 0).gives("alikeIn(4, 500)", 2).gives("alikeIn(3, 0)", 0).gives("alikeIn(5, 1)", 0);
        x.gives("alikeIn(2, 1)", 1).does("lose(1, true)").gives("alikeIn(1, 500)", 33);
    }

    static void p53_refused() {
        Edges.promise(53, "(2; 5).");
        Run x = Edges.land(SLIP, 3).refused("alikeIn(0, 501)", 5).refused("alikeIn(0, -1)", 5).refused("alikeIn(0, " + LEAST + ")", 5);
        x.refused("alikeIn(4, 501)", 2).refused("alikeIn(-1, 0)", 2).refused("alikeIn(" + MOST + ", -1)", 2);
    }
}
