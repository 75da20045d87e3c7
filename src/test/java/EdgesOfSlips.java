/** Promises 9, 10 and 12, sentence by sentence: the tape, TOKENS, SLIPS, their limits and their FAULTS. */
final class EdgesOfSlips {
    private static final String MOST = "2147483647";
    private static final String LEAST = "-2147483648";
    private static final String KEYWORDS = "odds word line for read passim delete after insert person at says day go lose find any "
        + "when lost long has loop end stop";
    private static final String EIGHT_WORDS = "word a;word b;word c;word d;word e;word f;word g;word h;";
    private static final String EIGHT_LINES = "line 1;line 2;line 3;line 4;line 5;line 6;line 7;line 8;";
    private static final String SIX_PEOPLE = "person p at 1;person q at 1;person r at 1;person s at 1;person t at 1;person u at 1;";

    private EdgesOfSlips() {
    }

    private static void taken(String text, int lines) {
        Edges.land(text, lines).gives("fault(0)", 0).gives("fault(1)", -1);
    }

    private static void faulty(String text, int fault, int place) {
        Edges.run().badSlip(text, fault, place);
    }

    // ---- the tape

    static void p09_twentyBytes() {
        Edges.promise(9, "Twenty bytes come behind those on the tape, the highest of each int first: how many it has;");
        // "word", " ab;", "word", " cd;", "    ", and then "line", " 7; ", and blanks
        Run x = Edges.run().gives("feed(2003792484, 543253051, 2003792484, 543384635, 538976288)", 20);
        x.gives("feed(1818848869, 540490528, 538976288, 538976288, 538976288)", 40).gives("slip(40)", 1);
        x.gives("many(0)", 2).gives("line(0, 0)", 7);
        // The FAULT tells the place of a byte above 127: the first, the fifth, the sixth and the last of twenty.
        Edges.run().gives("feed(-2145378272, 538976288, 538976288, 538976288, 538976288)", 20).faulty("slip(20)", "1st", 1, 0);
        Edges.run().gives("feed(538976288, -14671840, 538976288, 538976288, 538976288)", 20).faulty("slip(20)", "5th", 1, 4);
        Edges.run().gives("feed(538976288, 545267744, 538976288, 538976288, 538976288)", 20).faulty("slip(20)", "6th", 1, 5);
        Edges.run().gives("feed(538976288, 538976288, 538976288, 538976288, 538976511)", 20).faulty("slip(20)", "20th", 1, 19);
    }

    static void p09_noMoreThan900() {
        Edges.promise(9, "NONE if there would be more than 900.");
        Run x = Edges.run().fed(" ".repeat(860)).gives("feed(0, 0, 0, 0, 0)", 880).gives("feed(0, 0, 0, 0, 0)", 900);
        x.refused("many(8)", 5).gives("feed(0, 0, 0, 0, 0)", -1).gives("status()", 5);
        x.refused("slip(901)", 5).faulty("slip(900)", "860 blanks", 1, 860);
        Run y = Edges.run().fed(" ".repeat(900)).gives("feed(0, 0, 0, 0, 0)", -1).gives("slip(900)", 0);
        y.gives("feed(0, 0, 0, 0, 0)", 20);
    }

    static void p10_atMost900Bytes() {
        Edges.terms("A SLIP is a TEXT of at most 900 bytes.");
        String end = "line 7 delete a;";
        taken("word a;" + " ".repeat(900 - 7 - end.length()) + end, 1);
        faulty("word a;" + " ".repeat(900 - 7 - end.length()) + "line 7 delete a ", 2, 900);
    }

    static void p10_theFirstBytes() {
        Edges.promise(10, "The first n bytes of the tape");
        Edges.run().fed("word ab;odds 17;").gives("slip(8)", 0).gives("many(0)", 1);
        Edges.run().fed("line 12;").faulty("slip(7)", "line 12", 2, 7);
        Edges.run().fed("line 1234567;").faulty("slip(9)", "line 1234", 4, 5);
        Run x = Edges.run().fed("word abc;person q at 1;").faulty("slip(7)", "word ab", 2, 7);
        x.slip("word abc; line 1; person ab at 1;", 1).gives("many(2)", 1);
        Edges.run().fed("  !").gives("slip(2)", 0);
    }

    static void p10_theTapeIsEmptyThen() {
        Edges.promise(10, "(which is empty then, but for 5)");
        Edges.run().fed("word a; word b;").gives("slip(7)", 0).refused("slip(1)", 5).gives("feed(0, 0, 0, 0, 0)", 20);
        Edges.run().fed("word a; word b;").gives("slip(0)", 0).refused("slip(1)", 5);
        Edges.run().badSlip("word 1;", 2, 5).gives("feed(0, 0, 0, 0, 0)", 20);
        Edges.run().fed("word a;").refused("slip(21)", 5).refused("slip(-1)", 5).gives("slip(7)", 0).gives("many(0)", 1);
    }

    static void p10_howManyLines() {
        Edges.promise(10, "are the SLIP: how many LINES");
        Edges.run().slip("", 0).slip(" \n", 0).slip("line 5;", 1).slip(EIGHT_LINES, 8);
    }

    static void p10_refused() {
        Edges.promise(10, "(5; 10: the old one stays).");
        Run x = Edges.land("odds 3;word a;line 1 delete a;person p at 1 says a;", 1).years("day 1;", 1).does("lose(0, true)");
        x.refused("slip(1)", 5).fed(" ").refused("slip(-1)", 5).refused("slip(21)", 5);
        x.refused("slip(" + MOST + ")", 5).refused("slip(" + LEAST + ")", 5).gives("feed(538976288, 0, 0, 0, 0)", 40);
        x.faulty("slip(40)", "zeros", 1, 24);
        x.badSlip("odds 4;word b;line 9;person q at 9;odds 5;", 5, 35).gives("many(3)", 3);
    }

    static void p10_inPlaceOfThatAhead() {
        Edges.terms("A SLIP that is taken is there in place of that ahead; it is DAY 0, no LINE is LOST; there are no YEARS.");
        Run x = Edges.land("odds 9;word a;word b;line 1 delete a;line 2;person p at 1 says a b;person q at 2;", 2);
        x.years("day 1;", 1).does("day(5)", "lose(0, true)", "lose(1, true)", "mean(0, 1)").slip("word b;line 3;line 4 delete b;person a at 3;", 2);
        int[] due = {1, 2, 1, 2, 0, 0, 1, 0};
        for (int what = 0; what < due.length; what++) {
            x.gives("many(" + what + ")", due[what]);
        }
        x.gives("line(0, 2)", 0).gives("line(1, 2)", 0).refused("live(0)", 8).refused("placeOf(1)", 2);
        x.slip("", 0).gives("many(1)", 0).gives("many(0)", 0).refused("line(0, 0)", 2);
    }

    // ---- TOKENS

    static void p10_asLongAsTheyGo() {
        Edges.terms("TOKENS, as long as they go,");
        Run x = Edges.land("word ab;word abc;line 12for abc read ab;", 1).gives("line(0, 0)", 12).gives("edit(0, 0, 1)", 1);
        x.gives("edit(0, 0, 2)", 0);
        taken("word oddsx;word lineline;word atat;", 0);
        faulty("worda;", 2, 0);
        faulty("line 1deletea;", 2, 6);
    }

    static void p10_blanks() {
        Edges.terms("between them blanks (10, 32):");
        taken("\n \nword\n\na  ;line\n1 ;\n", 1);
        taken("line 1;line 2;", 2);
        for (int other : new int[] {0, 8, 9, 11, 12, 13, 31, 33, 127, 160}) {
            faulty("line 1;" + (char) other, 1, 7);
        }
    }

    static void p10_letters() {
        Edges.terms("WORDS OF THE TEXT (small letters),");
        taken("word a;word z;word az;word za;", 0);
        faulty("word `;", 1, 5);
        faulty("word {;", 1, 5);
        faulty("word A;", 1, 5);
        faulty("word aA;", 1, 6);
        faulty("word \u00e4;", 1, 5);
    }

    static void p10_numbers() {
        Edges.terms("NUMBERS (1 to 4 digits),");
        taken("line 9;odds 0;", 1);
        Edges.land("line 0999;odds 0016;line 0001;", 2).gives("line(0, 0)", 999).gives("many(3)", 16).gives("line(1, 0)", 1);
        faulty("line 9999;", 4, 5);
        faulty("line 00009;", 1, 5);
        faulty("line /;", 1, 5);
        faulty("line :;", 1, 5);
        faulty("line -1;", 1, 5);
    }

    static void p10_signs() {
        Edges.terms("SIGNS ; < > =");
        for (String sign : "; < > =".split(" ")) {
            faulty("word " + sign, 2, 5);
        }
        // 59 to 62 are the signs' numbers
        for (String other : "< > = 59 60 61 62".split(" ")) {
            faulty("word a " + other, 2, 7);
        }
        for (String other : ": ? , . @ /".split(" ")) {
            faulty("word " + other, 1, 5);
        }
    }

    // ---- SLIPS

    static void p10_anyNumberOfParts() {
        Edges.terms("SLIP: {PART}.");
        taken("", 0);
        taken("odds 1;", 0);
        taken("line 2;odds 1;word a;line 1;person p at 2;word b;line 3 delete b;person q at 3;", 3);
        faulty(";", 2, 0);
        faulty("line 1;;", 2, 7);
    }

    static void p10_parts() {
        Edges.terms("PART: odds NUMBER ; or word NAME ; or line NUMBER {EDIT} ; or person NAME at NUMBER [says NAME {NAME}] ;");
        faulty("odds;", 2, 4);
        faulty("odds a;", 2, 5);
        faulty("odds 1 2;", 2, 7);
        faulty("odds 1", 2, 6);
        faulty("word;", 2, 4);
        faulty("word 1;", 2, 5);
        faulty("word a b;", 2, 7);
        faulty("line;", 2, 4);
        faulty("line a;", 2, 5);
        faulty("line 1 2;", 2, 7);
        faulty("line 1 read;", 2, 7);
        faulty("line 1;person 1;", 2, 14);
        faulty("line 1;person p;", 2, 15);
        faulty("line 1;person p 1;", 2, 16);
        faulty("line 1;person p at;", 2, 18);
        faulty("line 1;person p at p;", 2, 19);
        faulty("line 1;person p at 1 p;", 2, 21);
        faulty("line 1;person p at 1 says;", 2, 25);
        faulty("word a;line 1;person p at 1 says a 1;", 2, 35);
        faulty("a;", 2, 0);
        faulty("7;", 2, 0);
        faulty("at 1;", 2, 0);
        faulty("day 1;", 2, 0);
    }

    static void p10_edits() {
        Edges.terms("EDIT: for NAME read NAME [passim], or delete NAME [passim], or after NAME insert NAME. ({ } any number of times, [ ] "
            + "perhaps.)");
        String ahead = "word a;word b;line 1 ";
        Run x = Edges.land(ahead + "for a read b for b read a passim delete a delete b passim;line 2 after a insert b;", 2);
        int[][] due = {{0, 0, 1, 0}, {0, 1, 0, 1}, {1, 0, -1, 0}, {1, 1, -1, 1}};
        for (int edit = 0; edit < 4; edit++) {
            x.gives("edit(0, " + edit + ", 0)", due[edit][0]).gives("edit(0, " + edit + ", 1)", due[edit][1]);
            x.gives("edit(0, " + edit + ", 3)", due[edit][3]);
        }
        x.gives("edit(0, 0, 2)", 1).gives("edit(0, 1, 2)", 0).refused("edit(0, 2, 2)", 8).refused("edit(0, 3, 2)", 8);
        x.gives("edit(1, 0, 0)", 2).gives("edit(1, 0, 1)", 0).gives("edit(1, 0, 2)", 1).gives("edit(1, 0, 3)", 0);
        faulty(ahead + "for a;", 2, 26);
        faulty(ahead + "for a b;", 2, 27);
        faulty(ahead + "for a insert b;", 2, 27);
        faulty(ahead + "for a read;", 2, 31);
        faulty(ahead + "for a read b passim passim;", 2, 41);
        faulty(ahead + "delete;", 2, 27);
        faulty(ahead + "delete a read b;", 2, 30);
        faulty(ahead + "after a;", 2, 28);
        faulty(ahead + "after a b;", 2, 29);
        faulty(ahead + "after a read b;", 2, 29);
        faulty(ahead + "after a insert;", 2, 35);
        faulty(ahead + "after a insert b passim;", 2, 38);
        faulty(ahead + "passim;", 2, 21);
        taken(ahead + "after a insert a;", 1);
    }

    static void p10_namesOfOneToEightLetters() {
        Edges.terms("NAME: a WORD OF THE TEXT of 1 to 8 letters");
        taken("word a;word abcdefgh;word abcdefgi;line 1 delete abcdefgh;person z at 1;person zzzzzzzz at 1;", 1);
        faulty("word abcdefghi;", 2, 5);
        faulty("word aaaaaaaaaaaaaaaaaaaaaaaa;", 2, 5);
        faulty("line 1;person abcdefghi at 1;", 2, 14);
        faulty("word a;line 1 delete aaaaaaaaa;", 2, 21);
        faulty("word abcdefgh;line 1 for abcdefgh read abcdefghi;", 2, 39);
        faulty("word a;line 1;person p at 1 says aaaaaaaaa;", 2, 33);
    }

    static void p10_namesThatAreKept() {
        Edges.terms("that is none of odds, word, line, for, read, passim, delete, after, insert, person, at, says, day, go, lose, find, "
            + "any, when, lost, long, has, loop, end, stop.");
        for (String keyword : KEYWORDS.split(" ")) {
            faulty("word " + keyword + ";", 2, 5);
            faulty("line 1;person " + keyword + " at 1;", 2, 14);
            taken("word " + keyword + "s;", 0);
        }
        taken("word slip;word years;word mark;word back;word ends;", 0);
    }

    static void p10_oneNameOneThing() {
        Edges.terms("One NAME is of one thing alone.");
        faulty("word a;word a;", 3, 12);
        faulty("line 1;person a at 1;person a at 1;", 3, 28);
        faulty("line 1;word a;person a at 1;", 3, 21);
        faulty("line 1;person a at 1;word a;", 3, 26);
        Edges.land("word a;", 0).slip("line 1;person a at 1;", 1).slip("word a;", 0);
    }

    static void p10_odds() {
        Edges.terms("ODDS (0 to 16; 2 without).");
        Edges.land("odds 0;", 0).gives("many(3)", 0).slip("odds 16;", 0).gives("many(3)", 16).slip("", 0).gives("many(3)", 2);
        faulty("odds 17;", 4, 5);
        faulty("odds 9999;", 4, 5);
    }

    static void p10_atMostEightWords() {
        Edges.terms("WORDS, at most 8.");
        Edges.land(EIGHT_WORDS, 0).gives("many(0)", 8);
        faulty(EIGHT_WORDS + "word i;", 6, 56);
        faulty(EIGHT_WORDS + "word a;", 6, 56);
        faulty(EIGHT_WORDS + "word", 6, 56);
    }

    static void p10_atMostEightLines() {
        Edges.terms("LINES, at most 8, each of a number (1 to 999) of its own, with at most 4 EDITS.");
        Edges.land(EIGHT_LINES, 8).gives("many(1)", 8).gives("line(7, 0)", 8);
        faulty(EIGHT_LINES + "line 9;", 6, 56);
        Edges.land("line 1;line 999;", 2).gives("line(0, 0)", 1).gives("line(1, 0)", 999);
        faulty("line 0;", 4, 5);
        faulty("line 0000;", 4, 5);
        faulty("line 1000;", 4, 5);
        faulty("line 7;line 007;", 5, 12);
        String three = "word a;line 1 delete a delete a delete a ";
        Edges.land(three + "delete a;", 1).gives("line(0, 1)", 4);
        faulty(three + "delete a delete a;", 6, 50);
        Edges.land("line 5;", 1).gives("line(0, 1)", 0);
    }

    static void p10_atMostSixPeople() {
        Edges.terms("PEOPLE, at most 6, AT a LINE (told by its number), say a ROW of WORDS (1 to 8; none without says).");
        Edges.land("line 1;" + SIX_PEOPLE, 1).gives("many(2)", 6).gives("line(0, 4)", 63);
        faulty("line 1;" + SIX_PEOPLE + "person v at 1;", 6, 91);
        Run x = Edges.land("word a;word b;line 9;line 8;person p at 8;person q at 9 says b;person r at 8 says a b a b a b a b;", 2);
        x.gives("placeOf(0)", 1).gives("placeOf(1)", 0).gives("placeOf(2)", 1).says(0, "").says(1, "1").says(2, "01010101");
        faulty("word a;line 1;person p at 1 says a a a a a a a a a;", 6, 49);
    }

    static void p10_asTheyStand() {
        Edges.terms("All are numbered as they stand (LINES, too: LINE 0 is the first told); what a PART names must be told ahead.");
        Run x = Edges.land("word z;line 70 delete z;word a;line 3;person y at 3 says a z;person b at 70;", 2);
        x.gives("line(0, 0)", 70).gives("line(1, 0)", 3).gives("placeOf(0)", 1).gives("placeOf(1)", 0).says(0, "10");
        faulty("line 1 delete a;word a;", 3, 14);
        faulty("person p at 1;line 1;", 3, 12);
        faulty("line 1;person p at 1 says a;word a;", 3, 26);
    }

    // ---- FAULTS

    static void p12_theFirstAlongTheText() {
        Edges.terms("FAULTS, the first along the text (of one TOKEN the least kind):");
        faulty("odds 17;line 00000", 4, 5);
        faulty("line 00000;odds 17", 1, 5);
        faulty("word a;word a;!", 3, 12);
        faulty("line 1;person p at 0;", 3, 19);
        faulty("line 1;person p at 1000;", 3, 19);
        faulty("word a;line 1;person p at 1 says a a a a a a a a b;", 3, 49);
        faulty("word a;line 1;person p at 1 says a a a a a a a a abcdefghi;", 2, 49);
        faulty("odds 1;odds 17;", 5, 7);
        faulty("word a;line 1 for b read b;", 3, 18);
        faulty(EIGHT_LINES + "line 8;", 6, 56);
    }

    static void p12_fault1() {
        Edges.terms("1 no TOKEN begins so (a NUMBER of 5 digits and more: at its first).");
        faulty("#", 1, 0);
        faulty("word a#;", 1, 6);
        faulty("line 12345;", 1, 5);
        faulty("line 123456789012345678901234567890;", 1, 5);
        faulty("word 00000;", 1, 5);
        faulty("12345", 1, 0);
        faulty("odds 1 12345;", 1, 7);
        faulty("word a;line 1 for a 12345;", 1, 20);
    }

    static void p12_fault2() {
        Edges.terms("2 it can't stand there (the end: the text's length; a WORD OF THE TEXT of 9 letters and more where a NAME must stand).");
        faulty("word", 2, 4);
        faulty("word \n  ", 2, 8);
        faulty("word a", 2, 6);
        faulty("word a;word b;line 1 for a read b passim ", 2, 41);
        faulty("word abcdefghi;", 2, 5);
        faulty("word a;line 1 delete abcdefghi;", 2, 21);
        faulty("abcdefghi;", 2, 0);
        faulty("line 1;person p at 1 abcdefghi;", 2, 21);
    }

    static void p12_fault3() {
        Edges.terms("3 a new NAME that is taken; a NAME that is no WORD told ahead; the number of a LINE that there is not (behind at).");
        faulty("word a;word b;word a;", 3, 19);
        faulty("line 1;person p at 1;line 2 delete p;", 3, 35);
        faulty("word a;line 1 for b read a;", 3, 18);
        faulty("word a;line 1 for a read b;", 3, 25);
        faulty("word a;line 1 after a insert b;", 3, 29);
        faulty("word a;line 1 after b insert a;", 3, 20);
        faulty("line 1;person p at 1 says p;", 3, 26);
        faulty("line 1;person p at 2;", 3, 19);
    }

    static void p12_fault4() {
        Edges.terms("4 a NUMBER that can't be.");
        faulty("odds 17;", 4, 5);
        faulty("line 0;", 4, 5);
        faulty("line 1000;", 4, 5);
    }

    static void p12_fault5() {
        Edges.terms("5 odds told already (at that WORD OF THE TEXT); the number of a LINE that is told already; for, read, a WORD and itself "
            + "(at the second NAME).");
        faulty("odds 1;word a;odds 1;", 5, 14);
        faulty("odds 1;odds", 5, 7);
        faulty("line 5;line 6;line 5;", 5, 19);
        faulty("word a;line 1 for a read a;", 5, 25);
        faulty("word a;line 1 for a read a", 5, 25);
        taken("odds 1;line 5;line 51;line 15;", 3);
    }

    static void p12_fault6() {
        Edges.terms("6 a ninth word, a ninth line, a seventh person, a fifth EDIT of a LINE (at that WORD OF THE TEXT); a ninth WORD behind says "
            + "(at that NAME).");
        faulty(EIGHT_WORDS + "word !", 6, 56);
        faulty(EIGHT_LINES + "line !", 6, 56);
        faulty("line 1;" + SIX_PEOPLE + "person !", 6, 91);
        String four = "word a;word b;line 1 delete a delete a delete a delete a ";
        faulty(four + "delete a;", 6, 57);
        faulty(four + "for a read b;", 6, 57);
        faulty(four + "after a insert b;", 6, 57);
        taken(four + ";line 2 delete a delete a delete a delete a;", 2);
        faulty("word a;line 1;person p at 1 says a a a a a a a a a", 6, 49);
        taken("word a;line 1;person p at 1 says a a a a a a a a;", 1);
    }

    // ---- fault()

    static void p12_ofTheLatest() {
        Edges.promise(12, "Of the latest of these with STATUS 0 or 10,");
        Run x = Edges.run().badSlip("word;", 2, 4).refused("slip(1)", 5).gives("fault(0)", 2).gives("fault(1)", 4);
        x.refused("years(301)", 5).gives("fault(0)", 2).gives("fault(1)", 4);
        x.badYears("day 0;", 4, 4).slip("word a;", 0).gives("fault(0)", 0).gives("fault(1)", -1);
        x.badYears("!", 1, 0).years("", 0).gives("fault(0)", 0).gives("fault(1)", -1);
        Edges.run().does("mark()").badSlip("word;", 2, 4).does("back()").gives("fault(0)", 2).gives("fault(1)", 4);
    }

    static void p12_withoutOne() {
        Edges.promise(12, "what 0: the FAULT (0 without one), 1: its place (NONE without).");
        Edges.run().slip("", 0).gives("fault(0)", 0).gives("fault(1)", -1);
        Edges.run().badSlip("!", 1, 0).gives("fault(0)", 1).gives("fault(1)", 0);
    }

    static void p12_noneForOthers() {
        Edges.promise(12, "NONE for others, and ahead of any.");
        Edges.run().gives("fault(0)", -1).gives("fault(1)", -1).gives("fault(2)", -1);
        Edges.run().refused("slip(1)", 5).refused("years(1)", 5).gives("fault(0)", -1).gives("fault(1)", -1);
        Run x = Edges.run().badSlip("word;", 2, 4).gives("fault(2)", -1).gives("fault(-1)", -1);
        x.gives("fault(" + MOST + ")", -1).gives("fault(" + LEAST + ")", -1);
    }
}
