/** Promises 11 and 54 to 58, sentence by sentence: YEARS, their FAULTS, what is LIVED, MARKS. */
final class EdgesOfYears {
    private static final String MOST = "2147483647";
    private static final String LEAST = "-2147483648";
    private static final String SLIP = "word a;word b;line 9 delete a;line 10;line 40;person ann at 9 says a b a;person bob at 10;";
    /** 298 STEPS, of which 297 are DAYS. */
    private static final String NEARLY = "loop 99;day 1;day 1;day 1;end;";

    private EdgesOfYears() {
    }

    private static void taken(String text, int steps) {
        Edges.land(SLIP, 3).years(text, steps).gives("fault(0)", 0).gives("fault(1)", -1);
    }

    private static void faulty(String text, int fault, int place) {
        Edges.land(SLIP, 3).badYears(text, fault, place);
    }

    /** YEARS of the SLIP: how many STEPS are come to by a seed, and what lived() tells. */
    private static Run lives(String text, int seed, int steps, int... lived) {
        return lives(Edges.land(SLIP, 3), text, seed, steps, lived);
    }

    private static Run lives(Run x, String text, int seed, int steps, int... lived) {
        x.fed(text).does("years(" + text.length() + ")").gives("live(" + seed + ")", steps);
        for (int what = 0; what < lived.length; what++) {
            x.gives("lived(" + what + ")", lived[what]);
        }
        return x;
    }

    // ---- the TEXT

    static void p11_atMost300Bytes() {
        Edges.terms("YEARS are a TEXT of at most 300 bytes, of such TOKENS (none at first). YEARS: {STEP}.");
        taken("day 1;" + " ".repeat(288) + "day 2;", 2);
        taken("any;".repeat(29) + " ".repeat(180) + "any;", 30);
        faulty("day 1;" + " ".repeat(288) + "day 2 ", 2, 300);
        Edges.land(SLIP, 3).fed("day 1;" + " ".repeat(310)).refused("years(301)", 5).gives("years(300)", 1);
        taken("", 0);
        taken(" \n ", 0);
        taken("day\n1 ;day 2;", 2);
        faulty("day\t1;", 1, 3);
        faulty("day 1;;", 2, 6);
    }

    static void p11_noYearsAtFirst() {
        Edges.terms("(none at first)");
        Edges.land(SLIP, 3).refused("live(0)", 8).refused("mean(0, 1)", 8).years("", 0).gives("live(0)", 0);
    }

    static void p11_howManySteps() {
        Edges.promise(11, "Likewise the YEARS: how many STEPS");
        Run x = Edges.land(SLIP, 3).years("loop 2;when lost 9;stop;end;end;day 1;", 4).gives("slip(0)", 0).years("stop;", 1);
        x.refused("years(1)", 5).fed("day 1; day 2;").gives("years(6)", 1).refused("years(1)", 5);
        x.fed("stop; ").gives("years(0)", 0).refused("years(1)", 5).gives("feed(0, 0, 0, 0, 0)", 20);
        Edges.run().years("day 1;any;", 2);
    }

    static void p11_refused() {
        Edges.promise(11, "(5: above 300, too; 10).");
        Run x = Edges.land(SLIP, 3).years("day 5;", 1).refused("years(1)", 5).fed("day 1;" + " ".repeat(300)).refused("years(-1)", 5);
        x.refused("years(301)", 5).refused("years(320)", 5).refused("years(321)", 5).refused("years(" + MOST + ")", 5);
        x.refused("years(" + LEAST + ")", 5).gives("live(0)", 1).gives("lived(1)", 5).gives("years(300)", 1);
        x.badYears("day 0;", 4, 4).gives("live(0)", 1).gives("lived(1)", 1);
        Edges.land(SLIP, 3).badYears("day 0;", 4, 4).refused("live(0)", 8);
        Edges.land(SLIP, 3).badYears("loop 1;when lost 9;day", 2, 22).years("stop;", 1).badYears("loop 1;", 2, 7).years("", 0);
    }

    static void p11_steps() {
        Edges.terms("STEP: day NUMBER ; or go NAME NUMBER ; or lose NUMBER ; or find NUMBER ; or any ; or when TEST ; {STEP} end ; or loop NUMBER ; "
            + "{STEP} end ; or stop ;");
        taken("day 1;go ann 10;lose 9;find 9;any;when lost 9;end;loop 1;end;stop;", 8);
        faulty("day;", 2, 3);
        faulty("day a;", 2, 4);
        faulty("day 1 2;", 2, 6);
        faulty("go;", 2, 2);
        faulty("go ann;", 2, 6);
        faulty("go ann bob;", 2, 7);
        faulty("go ann 9 9;", 2, 9);
        faulty("lose;", 2, 4);
        faulty("lose ann;", 2, 5);
        faulty("find;", 2, 4);
        faulty("find ann;", 2, 5);
        faulty("any 1;", 2, 4);
        faulty("when;", 2, 4);
        faulty("when 9;", 2, 5);
        faulty("loop;", 2, 4);
        faulty("loop a;", 2, 5);
        faulty("stop 1;", 2, 5);
        faulty("go 9 9;", 2, 3);
        faulty("word c;", 2, 0);
        faulty("a;", 2, 0);
        faulty("3;", 2, 0);
        faulty("loop 1;day 1;end 1;", 2, 17);
        faulty("loop 1 day 1;end;", 2, 7);
    }

    static void p11_tests() {
        Edges.terms("TEST: lost NUMBER, or has NAME NAME, or long NAME COMPARES NUMBER. COMPARES: < or > or =");
        taken("when lost 9;end;when has ann a;end;when long ann<1;end;when long ann>1;end;when long bob = 0;end;", 5);
        faulty("when day 1;end;", 2, 5);
        faulty("when ann;end;", 2, 5);
        faulty("when lost;end;", 2, 9);
        faulty("when lost ann;end;", 2, 10);
        faulty("when has;end;", 2, 8);
        faulty("when has 1;end;", 2, 9);
        faulty("when has ann;end;", 2, 12);
        faulty("when has ann 1;end;", 2, 13);
        faulty("when long;end;", 2, 9);
        faulty("when long ann 1;end;", 2, 14);
        faulty("when long ann;end;", 2, 13);
        faulty("when long ann =;end;", 2, 15);
        faulty("when long ann = a;end;", 2, 16);
        faulty("when long ann <= 1;end;", 2, 15);
        faulty("when lost 9 end;", 2, 12);
    }

    // ---- FAULTS

    static void p11_faults1And2() {
        Edges.terms("FAULTS: 1, 2 as above (an end without a beginning; the text's end ahead of an end: 2).");
        faulty("!", 1, 0);
        faulty("day 12345;", 1, 4);
        faulty("Day 1;", 1, 0);
        faulty("when long ann ! 1;end;", 1, 14);
        faulty("day", 2, 3);
        faulty("day  ", 2, 5);
        faulty("stop", 2, 4);
        faulty("go abcdefghi 9;", 2, 3);
        faulty("when has ann abcdefghi;end;", 2, 13);
        faulty("end;", 2, 0);
        faulty("loop 1;end;end;", 2, 11);
        faulty("loop 1;day 1;", 2, 13);
        faulty("when lost 9; ", 2, 13);
        faulty("loop 1;when lost 9;end;", 2, 23);
        faulty("loop 1;end", 2, 10);
    }

    static void p11_fault3() {
        Edges.terms("3 a NAME that is no such one (PEOPLE; a WORD behind has' PERSON); the number of a LINE that there is not (behind go's PERSON, "
            + "lose, find, lost).");
        faulty("go a 9;", 3, 3);
        faulty("go eve 9;", 3, 3);
        faulty("when has a a;end;", 3, 9);
        faulty("when long b < 1;end;", 3, 10);
        faulty("when has ann bob;end;", 3, 13);
        faulty("when has ann c;end;", 3, 13);
        for (int number : new int[] {0, 8, 11, 41, 1000, 9999}) {
            faulty("go ann " + number + ";", 3, 7);
            faulty("lose " + number + ";", 3, 5);
            faulty("find " + number + ";", 3, 5);
            faulty("when lost " + number + ";end;", 3, 10);
        }
        Edges.run().badYears("lose 9;", 3, 5).badYears("go ann 9;", 3, 3);
    }

    static void p11_fault4() {
        Edges.terms("4 a NUMBER that can't be.");
        taken("day 1;day 20;loop 1;end;loop 99;end;when long ann = 0;end;when long ann = 8;end;", 6);
        faulty("day 0;", 4, 4);
        faulty("day 21;", 4, 4);
        faulty("loop 0;end;", 4, 5);
        faulty("loop 100;end;", 4, 5);
        faulty("when long ann < 9;end;", 4, 16);
        faulty("when long ann > 9;end;", 4, 16);
        faulty("day 9999", 4, 4);
    }

    static void p11_fault6() {
        Edges.terms("6 a 31st STEP (at its WORD OF THE TEXT; end is none).");
        taken("stop;".repeat(30), 30);
        faulty("stop;".repeat(31), 6, 150);
        faulty("any;".repeat(30) + "day 0;", 6, 120);
        faulty("any;".repeat(30) + "day", 6, 120);
        taken("loop 1;end;".repeat(26) + "any;any;any;", 29);
        taken("loop 1;" + "any;".repeat(29) + "end;", 30);
        faulty("loop 1;" + "any;".repeat(30) + "end;", 6, 123);
        faulty("any;".repeat(30) + "end;", 2, 120);
        faulty("any;".repeat(30) + "run;", 2, 120);
    }

    static void p11_fault7() {
        Edges.terms("7 a when, loop within three others (at its WORD OF THE TEXT).");
        taken("loop 1;when lost 9;loop 1;day 1;end;end;end;", 4);
        taken("loop 1;loop 1;loop 1;end;when lost 9;end;end;end;when lost 9;end;", 5);
        faulty("loop 1;when lost 9;loop 1;loop 1;end;end;end;end;", 7, 26);
        faulty("loop 1;loop 1;loop 1;when", 7, 21);
        faulty("loop 1;loop 1;loop 1;loop 0;", 7, 21);
        faulty("loop 1;loop 1;loop 1;" + "any;".repeat(27) + "loop 1;", 6, 129);
    }

    // ---- what STEPS do

    static void p54_dayAndLoseAndFind() {
        Edges.terms("day: so many (1 to 20); lose, find: a LINE is LOST, is there again;");
        lives("day 1;day 20;", 0, 2, 0, 21).gives("many(4)", 21).says(0, "1");
        lives("lose 40;lose 9;", 0, 2, 0).gives("many(5)", 5);
        lives("lose 40;lose 9;find 40;", 0, 3, 0).gives("many(5)", 1).gives("line(0, 2)", 1);
    }

    /** By seed 0 the draws are of 10,771, 29,844, 7,087 and 29,192; by 8: 1,346, 3,730, 885 and 3,649. */
    static void p54_draws() {
        Edges.terms("Draws: s, at first the seed, becomes what is left of s times 2,971 and 10,771 by 65,536; the draw by n is the rest of s by 8, "
            + "rounded down, by n.");
        Run x = Edges.land("line 1;line 2;line 3;person p at 1;person q at 2;", 3);
        lives(x, "any;", 0, 1, 0, 0, 1).gives("placeOf(0)", 1).gives("placeOf(1)", 1);
        Run y = Edges.land("line 1;line 2;line 3;person p at 1;person q at 2;", 3);
        lives(y, "any;any;", 0, 2, 1, 0, 1).gives("placeOf(0)", 1).gives("placeOf(1)", 1);
    }

    /** The one PERSON stays by 3,730 and goes by 3,649: a go that is MISSED has had both draws. */
    static void p54_any() {
        Edges.terms("any: a PERSON by a draw by how many there are GOES to a LINE by a draw by how many there are (both draws first).");
        String slip = "line 1;line 2;person p at 1;";
        lives(Edges.land(slip, 2), "any;", 0, 1, 1, 0, 0).gives("placeOf(0)", 0);
        lives(Edges.land(slip, 2), "any;any;", 0, 2, 1, 0, 1).gives("placeOf(0)", 1);
        lives(Edges.land(slip, 2), "any;", 1, 1, 0, 0, 1).gives("placeOf(0)", 1);
    }

    static void p54_missed() {
        Edges.terms("What can't be is MISSED: DAYS beyond 9,999 (as a whole), a go (by any, too) to a LINE that is not JOINED with his, or his own, a "
            + "lose of what is LOST, a find of what is not, any without PEOPLE (no draws).");
        lives("go ann 40;", 0, 1, 1, 0, 0).gives("placeOf(0)", 0);
        lives("go ann 9;", 0, 1, 1, 0, 0);
        lives("go ann 10;", 0, 1, 0, 0, 1).gives("placeOf(0)", 1);
        lives("lose 10;go ann 10;", 0, 2, 1, 0, 0);
        lives("lose 9;go ann 10;", 0, 2, 1, 0, 0);
        lives("lose 9;lose 9;", 0, 2, 1).gives("many(5)", 1);
        lives("find 9;", 0, 1, 1);
        lives("lose 9;find 9;find 9;", 0, 3, 1).gives("many(5)", 0);
        lives(Edges.land("line 1;line 2;", 2), "any;any;day 1;", 0, 3, 2, 1, 0);
        lives(Edges.run(), "any;", 0, 1, 1, 0, 0);
        lives(Edges.land("line 1;line 2;line 9;line 11;person p at 9;", 4), "any;any;", 0, 2, 2, 0, 0).gives("placeOf(0)", 2);
    }

    static void p54_daysBeyond9999() {
        Edges.terms("DAYS beyond 9,999 (as a whole),");
        Run x = Edges.land("word a;line 1 delete a;person p at 1;", 1);
        for (int i = 0; i < 100; i++) {
            x.does("day(99)");
        }
        x.does("day(89)").row(0, 0, 0).does("teach(0, 0, 2)").gives("many(4)", 9989);
        lives(x, "day 11;day 10;day 1;", 0, 3, 2, 10, 0, 2).gives("many(4)", 9999).says(0, "");
    }

    static void p54_whenHasAndLong() {
        Edges.terms("when has: a PERSON says a WORD; long: how many WORDS he says (0 to 8).");
        lives("when has ann a;day 1;end;when has bob a;day 20;end;", 0, 3, 0, 1);
        lives("when has ann b;day 1;end;", 0, 2, 0, 1);
        lives("when long ann < 3;day 1;end;when long ann < 4;day 2;end;", 0, 3, 0, 2);
        lives("when long ann > 3;day 1;end;when long ann > 2;day 2;end;", 0, 3, 0, 2);
        lives("when long ann = 2;day 1;end;when long ann = 3;day 2;end;", 0, 3, 0, 2);
        lives("when long bob < 0;day 1;end;when long bob = 0;day 2;end;when long bob > 0;day 4;end;", 0, 4, 0, 2);
        Run x = Edges.land("word a;line 1;person p at 1 says a a a a a a a a;", 1);
        lives(x, "when long p < 8;day 1;end;when long p = 8;day 2;end;when long p > 8;day 4;end;when long p > 7;day 8;end;", 0, 6, 0, 10);
    }

    static void p54_whenLost() {
        Edges.terms("or when TEST ; {STEP} end ;");
        lives("when lost 9;day 1;end;lose 9;when lost 9;day 2;end;find 9;when lost 9;day 4;end;", 0, 6, 0, 2);
        lives("when lost 40;loop 9;day 1;end;end;day 1;", 0, 2, 0, 1);
        lives("when lost 40;end;", 0, 1, 0, 0);
    }

    static void p54_loops() {
        Edges.terms("loop n (1 to 99): as often.");
        lives("loop 1;day 1;end;", 0, 2, 0, 1);
        lives("loop 99;day 1;end;", 0, 100, 0, 99);
        lives("loop 2;loop 3;loop 4;day 1;end;end;end;", 0, 33, 0, 24);
        lives("loop 99;end;day 1;", 0, 2, 0, 1);
        lives("loop 5;day 1;when lost 9;stop;end;lose 9;end;day 1;", 0, 7, 0, 2);
    }

    /** So many STEPS and ends as 300 bytes can hold. */
    static void p54_thirtyStepsAndTheirEnds() {
        Edges.terms("loop NUMBER ; {STEP} end ;");
        String text = "loop 1;end;".repeat(24) + "loop 2;day 1;end;any;any;any;any;";
        Run x = Edges.land("line 1;", 1);
        x.years(text, 30).gives("live(0)", 31).gives("lived(0)", 4).gives("lived(1)", 2);
        lives(Edges.land("line 1;", 1), "loop 1;loop 1;loop 2;day 1;end;end;end;".repeat(6) + "day 20;", 0, 31, 0, 32);
    }

    static void p54_atMost300Steps() {
        Edges.terms("At most 300 STEPS (when, loop count as one each time they are come to from ahead; end does not).");
        lives(NEARLY, 0, 298, 0, 297, 0, 2, 0);
        lives(NEARLY + "day 1;day 1;", 0, 300, 0, 299, 0, 2, 0);
        lives(NEARLY + "day 1;day 1;day 1;", 0, 300, 0, 299, 0, 2, 1).gives("many(4)", 299);
        lives(NEARLY + "loop 1;day 1;end;", 0, 300, 0, 298, 0, 2, 0);
        lives(NEARLY + "loop 2;day 1;end;", 0, 300, 0, 298, 0, 2, 1);
        lives(NEARLY + "day 1;loop 99;end;", 0, 300, 0, 298, 0, 2, 0);
        lives(NEARLY + "day 1;when lost 9;day 1;end;", 0, 300, 0, 298, 0, 2, 0);
        lives("loop 99;loop 2;end;end;", 0, 100, 0, 0, 0, 0, 0);
        lives("loop 99;when lost 9;end;when lost 9;end;when lost 9;end;end;", 0, 298, 0, 0, 0, 0, 0);
        lives("loop 99;loop 99;loop 99;end;end;end;", 0, 300, 0, 0, 0, 0, 1);
    }

    static void p54_lived() {
        Edges.terms("LIVED by a seed (0 to 9,999): all is as it becomes by it, and stays so.");
        Run x = lives("go ann 10;lose 9;day 2;find 9;go bob 9;day 1;", 0, 6, 0, 3, 2, 0, 0).says(0, "010").gives("placeOf(0)", 1);
        x.gives("placeOf(1)", 0).gives("many(4)", 3).gives("many(5)", 0).gives("live(0)", 6).gives("many(4)", 6).gives("lived(0)", 2);
    }

    static void p54_live() {
        Edges.promise(54, "LIVED: how many STEPS were come to, MISSED ones, too");
        lives("find 9;find 9;day 1;stop;day 1;", 0, 4, 2, 1);
        lives("", 0, 0, 0, 0, 0, 0, 0);
        lives("stop;", 9999, 1, 0);
    }

    static void p54_refused() {
        Edges.promise(54, "(5; 8: no YEARS).");
        Run x = Edges.land(SLIP, 3).refused("live(0)", 8).refused("live(9999)", 8).refused("live(-1)", 5).refused("live(10000)", 5);
        x.years("day 1;", 1).refused("live(-1)", 5).refused("live(10000)", 5).refused("live(" + MOST + ")", 5).refused("live(" + LEAST + ")", 5);
        x.gives("live(9999)", 1).gives("live(0)", 1).slip(SLIP, 3).refused("live(0)", 8);
    }

    // ---- lived, mean

    static void p55_lived() {
        Edges.promise(55, "Of live() latest with STATUS 0, whatever came since, what 0: MISSED, 1: DAYS, 2: how often somebody went, 3: how often "
            + "somebody said something else by a DAY,");
        Run x = lives("find 9;go ann 10;go bob 9;go ann 9;day 1;go ann 10;day 3;", 0, 7, 1, 4, 4, 1, 0).says(0, "10");
        x.refused("live(10000)", 5).gives("lived(1)", 4).gives("mean(0, 2)", 1).gives("lived(1)", 4).slip("", 0).refused("live(0)", 8);
        x.gives("lived(0)", 1).gives("lived(1)", 4).gives("lived(2)", 4).gives("lived(3)", 1).does("mark()", "back()").gives("lived(1)", 4);
        lives(x, "day 2;", 0, 1, 0, 2, 0, 0, 0);
    }

    /** In a DAY three say something else, in the next one two; a DAY on which all is as ahead counts none. */
    static void p55_howOftenByADay() {
        Edges.promise(55, "3: how often somebody said something else by a DAY,");
        String slip = "word a;word b;word c;line 1 delete a;line 5 for a read c for b read a for c read b;"
            + "person p at 1 says a;person q at 1 says a a;person r at 1;person s at 5 says a;";
        lives(Edges.land(slip, 2), "day 1;", 0, 1, 0, 1, 0, 3);
        lives(Edges.land(slip, 2), "day 2;", 0, 1, 0, 2, 0, 5);
        lives(Edges.land(slip, 2), "day 20;", 0, 1, 0, 20, 0, 23);
        lives(Edges.land(slip, 2), "lose 5;day 20;", 0, 2, 0, 20, 0, 3);
    }

    static void p55_aStepLeft() {
        Edges.promise(55, "4: 1 if a STEP was left to be done (by the 300 alone, not by stop), else 0");
        lives("stop;day 1;", 0, 1, 0, 0, 0, 0, 0);
        lives("day 1;", 0, 1, 0, 1, 0, 1, 0);
        lives(NEARLY + "day 1;stop;", 0, 300, 0, 298, 0, 2, 0);
        lives(NEARLY + "day 1;stop;day 1;", 0, 300, 0, 298, 0, 2, 0);
        lives(NEARLY + "day 1;day 1;stop;", 0, 300, 0, 299, 0, 2, 1);
        lives(NEARLY + "day 1;day 1;when lost 9;end;", 0, 300, 0, 299, 0, 2, 1);
        Run x = lives("loop 99;" + NEARLY + "end;", 0, 300, 0, 297, 0, 2, 1);
        lives(x, "day 1;", 0, 1, 0, 1, 0, 0, 0);
    }

    static void p55_refused() {
        Edges.promise(55, "(5; 8: there was none).");
        Run x = Edges.land(SLIP, 3).refused("lived(0)", 8).refused("lived(4)", 8).refused("lived(-1)", 5).refused("lived(5)", 5);
        x.years("day 1;", 1).refused("live(-1)", 5).refused("lived(0)", 8).gives("mean(0, 1)", 1).refused("lived(0)", 8).does("live(0)");
        x.gives("lived(4)", 0).refused("lived(5)", 5).refused("lived(-1)", 5).refused("lived(" + MOST + ")", 5).refused("lived(" + LEAST + ")", 5);
    }

    /**
     * The one PERSON goes to LINE 1, where his word is deleted, by the seeds of which the second draw by 2 is 1: 1, 3, 4 and
     * 9,999 (9,325 / 8 = 1,165; 33,823 / 8 = 4,227; 13,304 / 8 = 1,663; 53,579 / 8 = 6,697), not 0, 2 and 9,998 (3,730;
     * 54,342 / 8 = 6,792; 8,562 / 8 = 1,070).
     */
    static void p56_mean() {
        Edges.promise(56, "The FRACTION is the mean of how many WORDS all PEOPLE say behind the YEARS, by so many seeds (1 to 20) from one on (all stays "
            + "as it is)");
        Run x = Edges.land("word a;line 1;line 2 delete a;person p at 1 says a;", 2).years("any;day 1;", 2);
        x.gives("mean(0, 1)", 1).fraction(1, 1).gives("mean(1, 1)", 1).fraction(0, 1).gives("mean(0, 2)", 1).fraction(1, 2);
        x.gives("mean(0, 3)", 1).fraction(2, 3).gives("mean(9998, 1)", 1).fraction(1, 1).gives("mean(9999, 1)", 1).fraction(0, 1);
        x.gives("mean(9998, 2)", 1).fraction(1, 2).gives("mean(3, 2)", 1).fraction(0, 1).gives("placeOf(0)", 0).gives("many(4)", 0).says(0, "0").refused("lived(0)", 8);
        x.gives("live(1)", 2).gives("placeOf(0)", 1);
    }

    static void p56_ofTwentySeeds() {
        Edges.promise(56, "by so many seeds (1 to 20) from one on");
        Run x = Edges.land("word a;word b;line 9 delete a;person p at 9 says a b a a;person q at 9 says b b b b b b b b;", 1).years("day 2;", 1);
        x.gives("mean(0, 20)", 1).fraction(10, 1).gives("mean(9980, 20)", 1).fraction(10, 1).gives("mean(0, 1)", 1).fraction(10, 1);
        Edges.run().years("", 0).gives("mean(0, 20)", 1).fraction(0, 1);
    }

    static void p56_refused() {
        Edges.promise(56, "(5: the last above 9,999, too; 8).");
        Run x = Edges.land(SLIP, 3).refused("mean(0, 1)", 8).refused("mean(0, 0)", 5).refused("mean(10000, 1)", 5).years("day 1;", 1);
        x.refused("mean(0, 0)", 5).refused("mean(0, 21)", 5).refused("mean(0, -1)", 5).refused("mean(-1, 1)", 5).refused("mean(-1, 5)", 5);
        x.refused("mean(10000, 1)", 5).refused("mean(9981, 20)", 5).refused("mean(9999, 2)", 5).refused("mean(" + MOST + ", 20)", 5);
        x.refused("mean(" + LEAST + ", 1)", 5).refused("mean(0, " + MOST + ")", 5).refused("mean(0, " + LEAST + ")", 5).gives("mean(9999, 1)", 1);
    }

    // ---- MARKS

    static void p57_mark() {
        Edges.promise(57, "A MARK more: how many there are (7).");
        Run x = Edges.run().gives("mark()", 1).gives("mark()", 2).gives("mark()", 3).refused("mark()", 7).does("back()").gives("mark()", 3);
        x.refused("mark()", 7).does("back()", "back()", "back()").gives("mark()", 1);
    }

    static void p57_atMostThree() {
        Edges.terms("MARKS, at most 3: the SLIP with all that became of it, the YEARS are kept as they are; all is taken back to the latest MARK, "
            + "which is gone then.");
        Run x = Edges.land("word a;line 1;", 1).does("mark()", "day(1)", "mark()", "day(2)", "mark()", "day(4)").refused("mark()", 7);
        x.gives("back()", 2).gives("many(4)", 3).gives("back()", 1).gives("many(4)", 1).does("day(9)").gives("mark()", 2).does("day(9)");
        x.gives("back()", 1).gives("many(4)", 10).gives("back()", 0).gives("many(4)", 0).refused("back()", 8);
    }

    static void p58_back() {
        Edges.promise(58, "All is taken back to the latest MARK: how many there are left");
        Run x = Edges.land(SLIP, 3).years("lose 40;", 1).row(0, 1, 1).does("mark()");
        x.does("day(1)", "go(0, 1)", "lose(1, true)", "teach(1, 0, 2)", "amend(2, 1, 0, 0, false)", "strike(0, 0)", "rule(7)").years("day 3;", 1);
        x.gives("back()", 0).gives("many(3)", 2).gives("many(4)", 0).gives("many(5)", 0).gives("many(6)", 1).gives("line(0, 1)", 1);
        x.says(0, "010").says(1, "").gives("placeOf(0)", 0).gives("live(0)", 1).gives("many(5)", 4).gives("lived(1)", 0);
    }

    static void p58_theSlip() {
        Edges.promise(58, "All is taken back to the latest MARK:");
        Run x = Edges.land(SLIP, 3).does("mark()").slip("word c;line 7;", 1).years("day 1;", 1).does("mark()").slip("", 0);
        x.gives("back()", 1).gives("many(0)", 1).gives("line(0, 0)", 7).gives("live(0)", 1).gives("back()", 0).gives("many(0)", 2);
        x.gives("line(2, 0)", 40).says(0, "010").refused("live(0)", 8);
    }

    /** A MARK keeps the SLIP and the YEARS: TRAYS, the tape, the FRACTION, what fault() and lived() tell are of the object. */
    static void p58_whatIsNotTakenBack() {
        Edges.terms("the SLIP with all that became of it, the YEARS are kept as they are;");
        Run x = Edges.land(SLIP, 3).does("mark()").years("day 2;", 1).row(0, 1, 0).does("live(0)", "mean(0, 1)").badSlip("!", 1, 0);
        x.fed("word z;").gives("back()", 0).holds(0, 1, 0).fraction(1, 1).gives("lived(1)", 2).gives("fault(0)", 1).gives("fault(1)", 0);
        x.gives("slip(7)", 0).gives("many(0)", 1);
    }

    static void p58_refused() {
        Edges.promise(58, "(8).");
        Edges.run().refused("back()", 8).does("mark()", "back()").refused("back()", 8);
        Edges.land(SLIP, 3).does("day(1)").refused("back()", 8).gives("many(4)", 1);
    }
}
