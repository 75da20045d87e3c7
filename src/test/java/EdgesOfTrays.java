/** Promises 1 to 8, sentence by sentence: a new object, STATUS, the FRACTION, TRAYS. */
final class EdgesOfTrays {
    private static final String MOST = "2147483647";
    private static final String LEAST = "-2147483648";

    private EdgesOfTrays() {
    }

    static void p01_traysAreMissing() {
        Edges.terms("TRAYS, 0 to 3, are MISSING at first,");
        Edges.promise(1, "TRAYS are MISSING,");
        Run x = Edges.run();
        for (int tray = 0; tray < 4; tray++) {
            x.refused("read(" + tray + ", 0)", 3);
            x.refused("write(" + tray + ", 0, 1)", 3);
        }
        x.refused("read(-1, 0)", 1).refused("read(4, 0)", 1);
    }

    static void p01_aSlipOfNothing() {
        Edges.promise(1, "a SLIP of nothing (ODDS 2),");
        Run x = Edges.run();
        int[] due = {0, 0, 0, 2, 0, 0, 0, 0};
        for (int what = 0; what < due.length; what++) {
            x.gives("many(" + what + ")", due[what]);
        }
        x.refused("line(0, 0)", 2).refused("edit(0, 0, 0)", 2).refused("placeOf(0)", 2);
        x.gives("omitted(1, 999)", 999);
    }

    static void p01_noYears() {
        Edges.promise(1, "no YEARS,");
        Edges.run().refused("live(0)", 8).refused("mean(0, 1)", 8).refused("lived(0)", 8);
    }

    static void p01_noMarks() {
        Edges.promise(1, "MARKS,");
        Edges.run().refused("back()", 8);
    }

    static void p01_anEmptyTape() {
        Edges.promise(1, "an empty tape;");
        Edges.run().refused("slip(1)", 5).refused("years(1)", 5).gives("slip(0)", 0).gives("years(0)", 0);
        Edges.run().gives("feed(0, 0, 0, 0, 0)", 20);
    }

    static void p01_status0AndTheFraction() {
        Edges.promise(1, "STATUS 0, the FRACTION 0 by 1.");
        Edges.run().gives("status()", 0).fraction(0, 1);
    }

    static void p02_ofTheLatestCall() {
        Edges.promise(2, "The STATUS of the latest call that has one.");
        Edges.run().refused("many(8)", 5).gives("status()", 5).gives("status()", 5);
        Edges.run().refused("many(8)", 5).does("many(0)").gives("status()", 0);
        Edges.run().refused("many(8)", 5).refused("live(0)", 8).gives("status()", 8);
    }

    static void p02_callsThatHaveNone() {
        Edges.terms("status(), fault(), feed(), top(), bottom() have none.");
        Edges.run().refused("many(8)", 5).gives("fault(0)", -1).gives("status()", 5).gives("feed(0, 0, 0, 0, 0)", 20)
            .gives("status()", 5).gives("top()", 0).gives("status()", 5).gives("bottom()", 1).gives("status()", 5);
    }

    /** Each number of STATUS once, by a call that has only this wrong. */
    static void p02_eachStatus() {
        Edges.terms("1 no such TRAY (or sort). 2 no such WORD, LINE, EDIT, PERSON. 3 a TRAY is MISSING. 4 a place that a TRAY has not, "
            + "or too few numbers (less than n, or m). 5 a number that can't be (in a TRAY what is no WORD, too). 6 below 0 (a "
            + "TRAY's length). 7 one too many. 8 there is none. 9 it can't be. 10 a FAULT. 11 TRAYS of unlike sorts. 0 else.");
        Run x = Edges.land("word a;word b;line 1 delete a;line 9;person p at 1;", 2);
        x.row(0, 0, 1).row(1, 0, 2).does("tray(3, 0, 2)");
        x.refused("read(4, 0)", 1).refused("tray(0, 4, 1)", 1);
        x.refused("saysFirst(0, 2)", 2).refused("line(2, 0)", 2).refused("strike(0, 1)", 2).refused("placeOf(1)", 2);
        x.refused("read(2, 0)", 3);
        x.refused("read(0, 2)", 4).refused("vain(0, 3, 0)", 4).refused("second(0, 1, 1, 3)", 4);
        x.refused("rule(17)", 5).refused("vain(1, 2, 0)", 5);
        x.refused("tray(0, 0, -1)", 6);
        x.does("mark()", "mark()", "mark()").refused("mark()", 7);
        x.refused("live(0)", 8);
        x.refused("joined(0, 0)", 9);
        x.refused("pour(0, 0, 3, 0, 1)", 11);
        x.badSlip("word", 2, 4);
        x.gives("many(0)", 2);
    }

    static void p02_theFirstThatHolds() {
        Edges.terms("STATUS of a call is the first of these that holds:");
        Run x = Edges.land("word a;line 1 delete a;", 1).row(0, 0, 1);
        x.refused("vain(4, 9, 9)", 1).refused("vain(2, 9, 9)", 2).refused("vain(2, 9, 0)", 3).refused("vain(0, 9, 0)", 4);
        x.refused("vain(0, 2, 0)", 5);
    }

    static void p02_aRefusedCallChangesNothing() {
        Edges.terms("A call with another STATUS than 0 gives NONE, or false, and changes nothing but STATUS (but slip(), years() "
            + "with 10 the tape, and what fault() tells).");
        Run x = Edges.land("word a;word b;line 1 for a read b;line 2;person p at 1 says a;", 2).years("day 1;", 1);
        x.row(0, 0, 1).does("chance(0, 1, 0, 0, 1)", "live(0)", "mark()");
        x.refused("tray(0, 1, 61)", 5).refused("write(0, 2, 1)", 4).refused("pour(0, 0, 0, 1, 2)", 4).refused("slip(1)", 5);
        x.refused("years(1)", 5).refused("copyRow(0, 1)", 3).refused("day(100)", 5).refused("go(0, 0)", 9);
        x.refused("lose(0, false)", 9).refused("teach(0, 0, 3)", 4).refused("amend(0, 0, 1, 1, false)", 5);
        x.refused("strike(0, 1)", 2).refused("swap(0, 0, 0)", 9).refused("rule(17)", 5).refused("right(0, 3, 0, 0)", 4);
        x.refused("chance(0, 1, 0, 0, 3)", 4).refused("live(10000)", 5).refused("mean(0, 21)", 5);
        x.badYears("day 0;", 4, 4).badSlip("odds 17;", 4, 5);
    }

    /** An object is used for at most 512 calls: 255 DAYS and their STATUS, and what is due of them. */
    static void p02_fiveHundredAndTwelveCalls() {
        Edges.promise(2, "The STATUS of the latest call that has one.");
        Run x = Edges.run();
        for (int day = 0; day < 255; day++) {
            x.gives("day(1)", 0);
        }
        x.gives("many(4)", 255);
    }

    static void p03_theTop() {
        Edges.promise(3, "The top of the FRACTION told latest.");
        Run x = Edges.land("odds 4;word a;word b;line 1 for a read b;person p at 1 says a b a;", 1).row(0, 0).row(1, 1);
        x.gives("chance(0, 1, 0, 1, 1)", 1).gives("top()", 3);
        x.gives("chance(0, 1, 0, 0, 1)", 1).gives("top()", 1);
        x.refused("chance(0, 1, 1, 0, 1)", 2).gives("top()", 1);
        x.years("", 0).gives("mean(5, 7)", 1).gives("top()", 3);
    }

    static void p04_theBottom() {
        Edges.promise(4, "Its bottom, above 0.");
        Run x = Edges.land("odds 4;word a;word b;line 1 for a read b;", 1).row(0, 0).row(1, 1);
        x.gives("bottom()", 1).gives("chance(0, 1, 0, 1, 1)", 1).gives("bottom()", 4);
        x.refused("chance(2, 1, 0, 1, 1)", 3).gives("bottom()", 4);
        x.gives("chance(1, 1, 0, 0, 1)", 1).gives("bottom()", 1);
    }

    /** With ODDS 12 an EDIT is done by 4 of 16, with ODDS 1 four of them all by 15 to the 4 of 16 to the 4. */
    static void p04_noCommonDivisor() {
        Edges.terms("FRACTIONS are told by top() and bottom() without a common divisor, the bottom above 0;");
        Run x = Edges.land("odds 12;word a;line 1 delete a;line 2 delete a delete a delete a delete a;", 2).row(0, 0, 0, 0, 0);
        x.gives("chance(0, 1, 0, 0, 0)", 1).fraction(1, 4);
        x.gives("chance(0, 0, 0, 0, 0)", 1).fraction(1, 1);
        x.does("rule(1)").gives("chance(0, 4, 1, 0, 0)", 1).fraction(50625, 65536);
        x.does("rule(8)").gives("chance(0, 4, 1, 0, 2)", 1).fraction(3, 8);
    }

    static void p04_zeroIsZeroByOne() {
        Edges.terms("0 is 0 by 1.");
        Run x = Edges.land("word a;line 1 delete a;", 1).row(0, 0, 0).years("", 0);
        x.gives("chance(0, 1, 0, 0, 2)", 1).fraction(0, 1);
        x.gives("chance(0, 1, 0, 0, 1)", 1).fraction(1, 8);
        x.gives("mean(0, 20)", 1).fraction(0, 1);
    }

    static void p05_atMostSixty() {
        Edges.promise(5, "A TRAY is a row of so many numbers (at most 60; 5),");
        Edges.run().gives("tray(0, 0, 60)", 1).gives("read(0, 59)", 0).refused("read(0, 60)", 4);
        Edges.run().gives("tray(3, 3, 60)", 1).gives("write(3, 59, 7)", 1).gives("read(3, 59)", 7);
        Edges.run().refused("tray(0, 0, 61)", 5).refused("tray(0, 0, " + MOST + ")", 5);
    }

    static void p05_none() {
        Edges.promise(5, "A TRAY is a row of so many numbers");
        Edges.run().gives("tray(1, 2, 0)", 1).refused("read(1, 0)", 4).refused("write(1, 0, 1)", 4);
    }

    static void p05_all0() {
        Edges.promise(5, "all 0");
        Run x = Edges.run().does("tray(0, 3, 3)", "write(0, 0, 7)", "write(0, 2, -1)");
        x.gives("tray(0, 3, 3)", 1).holds(0, 0, 0, 0);
        x.does("write(0, 2, 5)", "tray(0, 3, 2)", "tray(0, 3, 3)").holds(0, 0, 0, 0);
    }

    static void p05_refused() {
        Edges.promise(5, "(1; 5; 6).");
        Run x = Edges.run().does("tray(0, 1, 2)", "write(0, 1, 9)");
        x.refused("tray(-1, 0, 1)", 1).refused("tray(4, 0, 1)", 1).refused("tray(" + MOST + ", 0, 1)", 1);
        x.refused("tray(0, -1, 1)", 1).refused("tray(0, 4, 1)", 1).refused("tray(0, " + LEAST + ", 1)", 1);
        x.refused("tray(4, 0, 61)", 1).refused("tray(0, 4, 61)", 1).refused("tray(4, 0, -1)", 1).refused("tray(0, 4, -1)", 1);
        x.refused("tray(0, 0, 61)", 5).refused("tray(0, 0, -1)", 6).refused("tray(0, 0, " + LEAST + ")", 6);
        x.holds(0, 0, 9);
    }

    static void p06_cutToItsBits() {
        Edges.terms("or rows of numbers of 8 bits (sort 0), 16 (1), 32 (2) or 64 (3), with sign; what is written is cut to these.");
        Run x = Edges.run().does("tray(0, 0, 1)", "tray(1, 1, 1)", "tray(2, 2, 1)", "tray(3, 3, 1)");
        wraps(x, 0, "127", 127);
        wraps(x, 0, "128", -128);
        wraps(x, 0, "-129", 127);
        wraps(x, 0, "256", 0);
        wraps(x, 1, "32767", 32767);
        wraps(x, 1, "32768", -32768);
        wraps(x, 1, "-32769", 32767);
        wraps(x, 1, "65536", 0);
        wraps(x, 2, "2147483647", 2147483647L);
        wraps(x, 2, "2147483648", -2147483648L);
        wraps(x, 2, "-2147483649", 2147483647L);
        wraps(x, 2, "4294967296", 0);
        wraps(x, 3, "9223372036854775807", Long.MAX_VALUE);
        wraps(x, 3, "-9223372036854775808", Long.MIN_VALUE);
        wraps(x, 3, "4294967296", 4294967296L);
    }

    static void p06_aPlace() {
        Edges.promise(6, "A number comes to a place of a TRAY");
        Run x = Edges.run().does("tray(0, 2, 3)").gives("write(0, 0, 4)", 1).gives("write(0, 2, 6)", 1).holds(0, 4, 0, 6);
        x.gives("write(0, 0, 5)", 1).holds(0, 5, 0, 6);
    }

    static void p06_refused() {
        Edges.promise(6, "(1; 3; 4).");
        Run x = Edges.run().does("tray(0, 0, 2)", "write(0, 1, 8)");
        x.refused("write(-1, 0, 1)", 1).refused("write(4, 0, 1)", 1).refused("write(4, 9, 1)", 1);
        x.refused("write(1, 0, 1)", 3).refused("write(3, -1, 1)", 3);
        x.refused("write(0, 2, 1)", 4).refused("write(0, -1, 1)", 4).refused("write(0, " + MOST + ", 1)", 4);
        x.refused("write(0, " + LEAST + ", 1)", 4);
    }

    static void p07_statusTellsNone() {
        Edges.terms("Where a number may be below 0, STATUS tells NONE from -1.");
        Edges.promise(7, "The number in a place of a TRAY; STATUS tells NONE from -1");
        Run x = Edges.run().does("tray(0, 0, 2)", "write(0, 1, -1)");
        x.gives("read(0, 1)", -1).gives("read(0, 0)", 0).refused("read(0, 2)", 4);
    }

    static void p07_refused() {
        Edges.promise(7, "(1; 3; 4).");
        Run x = Edges.run().does("tray(0, 0, 2)");
        x.refused("read(-1, 0)", 1).refused("read(4, 9)", 1).refused("read(1, 0)", 3).refused("read(1, -1)", 3);
        x.refused("read(0, 2)", 4).refused("read(0, -1)", 4).refused("read(0, " + MOST + ")", 4).refused("read(0, " + LEAST + ")", 4);
    }

    static void p08_asTheyWere() {
        Edges.promise(8, "So many numbers from place i on of a TRAY come to place j on of another one, or the same, as they were:");
        Run x = Edges.run().row(0, 1, 2, 3, 4, 5).row(1, 9, 8, 7);
        x.gives("pour(0, 0, 0, 1, 4)", 1).holds(0, 1, 1, 2, 3, 4);
        x.gives("pour(0, 2, 0, 0, 3)", 1).holds(0, 2, 3, 4, 3, 4);
        x.gives("pour(0, 1, 0, 1, 3)", 1).holds(0, 2, 3, 4, 3, 4);
        x.gives("pour(1, 1, 0, 3, 2)", 1).holds(0, 2, 3, 4, 8, 7).holds(1, 9, 8, 7);
        x.gives("pour(0, 0, 1, 2, 1)", 1).holds(1, 9, 8, 2);
    }

    static void p08_allAndNone() {
        Edges.promise(8, "So many numbers from place i on of a TRAY");
        Run x = Edges.run().row(0, 1, 2).row(1, 3, 4);
        x.gives("pour(0, 0, 1, 0, 2)", 1).holds(1, 1, 2).gives("pour(0, 1, 1, 0, 0)", 1).holds(1, 1, 2);
        Run y = Edges.run().does("tray(0, 0, 60)", "tray(1, 0, 60)", "write(0, 0, 5)", "write(0, 59, 6)").gives("pour(0, 0, 1, 0, 60)", 1);
        y.gives("read(1, 0)", 5).gives("read(1, 59)", 6);
        Edges.run().does("tray(0, 3, 0)").gives("pour(0, 0, 0, 0, 0)", 1);
    }

    static void p08_refused() {
        Edges.promise(8, "1, 3 (either), 11, 6, 4,");
        Run x = Edges.run().row(0, 1, 2, 3).row(1, 4, 5).does("tray(3, 2, 3)");
        x.refused("pour(-1, 0, 0, 0, 1)", 1).refused("pour(4, 0, 0, 0, 1)", 1).refused("pour(0, 0, -1, 0, 1)", 1);
        x.refused("pour(0, 0, 4, 0, 1)", 1).refused("pour(2, 0, 0, 0, 1)", 3).refused("pour(0, 0, 2, 0, 1)", 3);
        x.refused("pour(2, 0, 2, 0, 1)", 3).refused("pour(0, 0, 3, 0, 1)", 11).refused("pour(3, 0, 0, 0, 1)", 11);
        x.refused("pour(0, 0, 1, 0, -1)", 6).refused("pour(0, 0, 1, 0, " + LEAST + ")", 6);
        x.refused("pour(0, 2, 1, 0, 2)", 4).refused("pour(0, 0, 1, 1, 2)", 4).refused("pour(0, -1, 1, 0, 1)", 4);
        x.refused("pour(0, 0, 1, -1, 1)", 4).refused("pour(0, 3, 1, 0, 1)", 4).refused("pour(0, 0, 1, 2, 1)", 4);
        x.refused("pour(0, 1, 1, 1, " + MOST + ")", 4).refused("pour(0, " + MOST + ", 1, 0, 1)", 4);
        x.refused("pour(0, 0, 1, " + MOST + ", 1)", 4).refused("pour(0, " + LEAST + ", 1, 0, 1)", 4).refused("pour(0, 4, 1, 0, 0)", 4);
    }

    static void p08_theOrder() {
        Edges.promise(8, "asked in this order.");
        Run x = Edges.run().row(0, 1, 2).does("tray(3, 2, 3)");
        x.refused("pour(2, -1, 4, -1, -1)", 1).refused("pour(4, -1, 2, -1, -1)", 1);
        x.refused("pour(2, -1, 3, -1, -1)", 3).refused("pour(3, -1, 2, -1, -1)", 3);
        x.refused("pour(0, -1, 3, -1, -1)", 11).refused("pour(0, 9, 3, 9, 9)", 11);
        x.refused("pour(0, -1, 0, 9, -1)", 6);
    }

    static void p08_eachSort() {
        Edges.promise(8, "come to place j on of another one,");
        for (int sort = 0; sort < 4; sort++) {
            Run x = Edges.run().does("tray(0, " + sort + ", 1)", "tray(1, " + sort + ", 2)", "write(0, 0, -3)");
            x.gives("pour(0, 0, 1, 1, 1)", 1).holds(1, 0, -3);
        }
    }

    private static void wraps(Run x, int tray, String written, long due) {
        x.gives("write(" + tray + ", 0, " + written + ")", 1).gives("read(" + tray + ", 0)", due);
    }
}
