/** Promises 11 and 54 to 58: YEARS, their FAULTS, what is LIVED, MARKS. */
public final class YearsTest {
    private static final Checks C = new Checks();

    private static final String SLIP = "odds 4;word wept;word light;word king;word bride;word bridge;"
        + "line 9 for bride read bridge after wept insert light;line 10 delete king passim;"
        + "line 30 for light read king for king read light passim;line 40;"
        + "person ann at 9 says wept bride king;person bob at 10 says king king wept;person cid at 30 says light;"
        + "person dot at 40;";

    public static void main(String[] args) {
        years();
        faults();
        faultsOfTests();
        faultsOfMany();
        steps();
        anew();
        missed();
        daysAndChanges();
        tests();
        loops();
        threeHundred();
        any();
        live();
        lived();
        mean();
        meanOfDraws();
        mark();
        back();
        C.end();
    }

    private static void taken(String text, int steps) {
        ErrataLand x = Checks.land(SLIP);
        C.due(x, "'" + text + "'", Checks.years(x, text), steps, 0);
        C.due("'" + text + "', fault(0)", x.fault(0), 0);
        C.due("'" + text + "', fault(1)", x.fault(1), -1);
    }

    private static void faulty(String text, int fault, int place) {
        ErrataLand x = Checks.land(SLIP);
        C.due(x, "'" + text + "'", Checks.years(x, text), -1, 10);
        C.due("'" + text + "', fault(0)", x.fault(0), fault);
        C.due("'" + text + "', fault(1)", x.fault(1), place);
    }

    private static void years() {
        C.about("promise 11");
        ErrataLand x = Checks.land(SLIP);
        C.due(x, "years", Checks.years(x, "day 1;day 2;"), 2, 0);
        C.no(x, "years(1) of an empty tape", x.years(1), 5);
        C.no(x, "years(-1)", x.years(-1), 5);
        StringBuilder blanks = new StringBuilder();
        for (int i = 0; i < 320; i++) {
            blanks.append(' ');
        }
        Checks.feed(x, blanks.toString());
        C.no(x, "years(301)", x.years(301), 5);
        C.due(x, "live(0), of the old ones", x.live(0), 2, 0);
        C.due(x, "years(300) of blanks", x.years(300), 0, 0);
        C.no(x, "years(1): the tape is empty", x.years(1), 5);
        C.due(x, "live(0) of years of nothing", x.live(0), 0, 0);
        Checks.years(x, "day 5;");
        C.no(x, "years with a fault", Checks.years(x, "day 6"), 10);
        C.no(x, "years(1): the tape is empty", x.years(1), 5);
        x.live(0);
        C.due("lived(1), of the old ones", x.lived(1), 5);
        taken("any;any ;\nstop;", 3);
        taken("when lost 9;end;loop 99;end;loop 1;day 20;end;", 4);
        ErrataLand none = new ErrataLand();
        C.due(none, "years without a slip", Checks.years(none, "day 1;any;"), 2, 0);
    }

    private static void faults() {
        C.about("faults of years");
        faulty("run;", 2, 0);
        faulty("end;", 2, 0);
        faulty(";", 2, 0);
        faulty("word a;", 2, 0);
        faulty("day;", 2, 3);
        faulty("day 0;", 4, 4);
        faulty("day 21;", 4, 4);
        taken("day 1;day 20;", 2);
        faulty("day x;", 2, 4);
        faulty("day 00001;", 1, 4);
        faulty("day 1", 2, 5);
        faulty("day 1 \n", 2, 7);
        faulty("day 1 end;", 2, 6);
        faulty("go", 2, 2);
        faulty("go 9;", 2, 3);
        faulty("go king 9;", 3, 3);
        faulty("go eve 9;", 3, 3);
        faulty("go day 9;", 2, 3);
        faulty("go abcdefghi 9;", 2, 3);
        faulty("go ann;", 2, 6);
        faulty("go ann bob;", 2, 7);
        faulty("go ann 11;", 3, 7);
        faulty("go ann 0;", 3, 7);
        faulty("go ann 1000;", 3, 7);
        faulty("lose 0;", 3, 5);
        faulty("lose 11;", 3, 5);
        faulty("lose ann;", 2, 5);
        faulty("find 12;", 3, 5);
        faulty("find;", 2, 4);
        faulty("any 1;", 2, 4);
        faulty("any", 2, 3);
        faulty("stop stop;", 2, 5);
        faulty("stop ! ;", 1, 5);
        faulty("Stop;", 1, 0);
        faulty("loop 0;", 4, 5);
        faulty("loop 100;", 4, 5);
        faulty("loop;", 2, 4);
        faulty("loop 1;", 2, 7);
        faulty("loop 1; day 1; ", 2, 15);
        faulty("loop 1 day 1; end;", 2, 7);
        faulty("loop 1; end", 2, 11);
        faulty("loop 1; end; end;", 2, 13);
        faulty("loop 12345;", 1, 5);
    }

    private static void faultsOfTests() {
        C.about("faults of tests");
        faulty("when;", 2, 4);
        faulty("when go;", 2, 5);
        faulty("when 1;", 2, 5);
        faulty("when lost 11;end;", 3, 10);
        faulty("when lost 0;end;", 3, 10);
        faulty("when lost ann;end;", 2, 10);
        faulty("when has king ann;end;", 3, 9);
        faulty("when has ann bob;end;", 3, 13);
        faulty("when has ann eve;end;", 3, 13);
        faulty("when has ann;end;", 2, 12);
        faulty("when has ann has;end;", 2, 13);
        faulty("when long ann 1;end;", 2, 14);
        faulty("when long ann ;end;", 2, 14);
        faulty("when long king < 1;end;", 3, 10);
        faulty("when long ann < ;", 2, 16);
        faulty("when long ann > 9;end;", 4, 16);
        faulty("when long ann >= 1;end;", 2, 15);
        faulty("when long ann = king;end;", 2, 16);
        faulty("when lost 9 day 1;end;", 2, 12);
        taken("when long ann < 0;end;when long bob > 8;end;when long cid=3;end;", 3);
        taken("when has ann king;end;when lost 30;stop;end;", 3);
    }

    private static String times(String text, int many) {
        StringBuilder made = new StringBuilder();
        for (int i = 0; i < many; i++) {
            made.append(text);
        }
        return made.toString();
    }

    private static void faultsOfMany() {
        C.about("faults of too many");
        taken(times("stop;", 30), 30);
        faulty(times("stop;", 31), 6, 150);
        faulty(times("stop;", 30) + "day 0;", 6, 150);
        faulty(times("stop;", 30) + "end;", 2, 150);
        taken("loop 1;" + times("any;", 29) + "end;", 30);
        faulty("loop 1;" + times("any;", 30) + "end;", 6, 123);
        taken("loop 1;when lost 9;loop 1;any;end;end;end;", 4);
        faulty("loop 1;when lost 9;loop 1;loop 1;", 7, 26);
        faulty("loop 1;loop 1;loop 1;when x;", 7, 21);
        taken("loop 1;loop 1;loop 1;end;loop 1;end;end;end;", 4);
        faulty(times("any;", 27) + "loop 1;loop 1;loop 1;loop 1;", 6, 129);
        taken(times("loop 1;end;", 27), 27);
    }

    /** Years of a new land: how many steps, and what is lived of them. */
    private static ErrataLand live(String slip, String text, int seed, int steps, int... lived) {
        ErrataLand x = Checks.land(slip);
        Checks.years(x, text);
        C.due(x, "live of '" + text + "'", x.live(seed), steps, 0);
        for (int what = 0; what < lived.length; what++) {
            C.due(x, "lived(" + what + ") of '" + text + "'", x.lived(what), lived[what], 0);
        }
        return x;
    }

    private static void steps() {
        C.about("promise 54, steps");
        ErrataLand x = live(SLIP, "go ann 10;lose 9;lose 40;find 40;day 2;", 0, 5, 0, 2, 1, 2, 0);
        C.due("placeOf(0)", x.placeOf(0), 1);
        C.due("many(4)", x.many(4), 2);
        C.due("many(5)", x.many(5), 1);
        C.due("length(0), without its king", x.length(0), 2);
        C.due("length(1)", x.length(1), 1);
        live(SLIP, "day 1;stop;day 1;", 0, 2, 0, 1, 0, 2, 0);
        live(SLIP, "", 0, 0, 0, 0, 0, 0, 0);
        C.due(x, "live again, what it became stays", x.live(0), 5, 0);
        C.due("lived(0): his own, and a loss of what is lost", x.lived(0), 2);
    }

    /** What one life counts is not in the next one, and what a mean tried out is in no slip behind it. */
    private static void anew() {
        C.about("promises 54 to 56, anew");
        ErrataLand x = live(SLIP, "loop 99;lose 9;find 9;find 9;go ann 10;day 1;go ann 9;end;", 0, 300, 50, 50, 99, 2, 1);
        C.yes(x, "mean", x.mean(0, 1));
        Checks.years(x, "loop 1;lose 10;day 9;");
        C.due(x, "slip", Checks.slip(x, "word a;line 1 delete a;line 2 delete a;person p at 1;"), 2, 0);
        int[] many = {1, 2, 1, 2, 0, 0, 2, 0};
        for (int what = 0; what < many.length; what++) {
            C.due(x, "many(" + what + ")", x.many(what), many[what], 0);
        }
        C.due("years", Checks.years(x, "any;stop;"), 2);
        C.due(x, "live(0)", x.live(0), 2, 0);
        int[] lived = {1, 0, 0, 0, 0};
        for (int what = 0; what < lived.length; what++) {
            C.due(x, "lived(" + what + ")", x.lived(what), lived[what], 0);
        }
    }

    private static void missed() {
        C.about("promise 55, missed");
        live(SLIP, "go ann 9;", 0, 1, 1, 0, 0, 0, 0);
        live(SLIP, "go ann 40;", 0, 1, 1, 0, 0, 0, 0);
        live(SLIP, "lose 10;go ann 10;go bob 9;find 10;go ann 10;", 0, 5, 2, 0, 1, 0, 0);
        live(SLIP, "find 9;lose 9;lose 9;find 9;find 9;", 0, 5, 3, 0, 0, 0, 0);
        live("line 1;line 2;", "any;any;", 0, 2, 2, 0, 0, 0, 0);
        live("", "any;", 0, 1, 1, 0, 0, 0, 0);
        ErrataLand x = new ErrataLand();
        for (int i = 0; i < 100; i++) {
            x.day(99);
        }
        x.day(89);
        C.due("many(4)", x.many(4), 9989);
        Checks.years(x, "day 11;day 10;day 1;");
        C.due(x, "live at the last days", x.live(0), 3, 0);
        C.due("lived(0): days beyond 9999", x.lived(0), 2);
        C.due("lived(1)", x.lived(1), 10);
        C.due("many(4)", x.many(4), 9999);
    }

    private static void daysAndChanges() {
        C.about("promise 55, days");
        String slip = "word a;word b;line 1 delete a;line 5 for a read b;person p at 1 says a a a;person q at 5 says a b a;"
            + "person r at 5 says b;";
        live(slip, "day 1;", 0, 1, 0, 1, 0, 2, 0);
        live(slip, "day 2;", 0, 1, 0, 2, 0, 4, 0);
        live(slip, "day 20;", 0, 1, 0, 20, 0, 5, 0);
        live(slip, "day 2;day 7;", 0, 2, 0, 9, 0, 5, 0);
        live(slip, "lose 1;day 3;find 1;day 1;", 0, 4, 0, 4, 0, 3, 0);
        live("word a;word b;word c;line 1 for a read c for b read a for c read b;person p at 1 says a b;", "day 20;", 0, 1, 0, 20,
            0, 20, 0);
    }

    private static void tests() {
        C.about("promise 54, tests");
        live(SLIP, "when lost 9;day 1;end;lose 9;when lost 9;day 1;day 1;end;", 0, 5, 0, 2);
        live(SLIP, "when has ann king;day 1;end;when has ann light;day 2;end;when has dot wept;day 4;end;", 0, 5, 0, 3);
        live(SLIP, "when long ann < 3;day 1;end;when long ann < 4;day 2;end;", 0, 3, 0, 2);
        live(SLIP, "when long ann > 3;day 1;end;when long ann > 2;day 2;end;", 0, 3, 0, 2);
        live(SLIP, "when long ann = 4;day 1;end;when long ann = 3;day 2;end;", 0, 3, 0, 2);
        live(SLIP, "when long dot > 0;when lost 9;stop;end;day 1;end;day 3;", 0, 2, 0, 3);
        live(SLIP, "when long dot = 0;when lost 9;stop;end;day 1;end;day 3;", 0, 4, 0, 4);
    }

    private static void loops() {
        C.about("promise 54, loops");
        live(SLIP, "loop 3;day 1;end;", 0, 4, 0, 3);
        live(SLIP, "loop 3;loop 2;day 1;end;end;", 0, 10, 0, 6);
        live(SLIP, "loop 3;loop 2;end;day 1;end;", 0, 7, 0, 3);
        live(SLIP, "loop 99;loop 1;end;end;", 0, 100, 0, 0);
        live(SLIP, "loop 3;when lost 9;day 1;end;lose 9;end;", 0, 9, 2, 2);
        live(SLIP, "loop 2;loop 3;loop 4;day 1;end;end;end;day 1;", 0, 34, 0, 25);
        live(SLIP, "loop 9;day 1;when lost 9;stop;end;lose 9;end;day 1;", 0, 7, 0, 2);
    }

    private static void threeHundred() {
        C.about("the 300 steps");
        String nothing = "line 1;line 2;";
        live(nothing, "loop 99;day 1;day 1;day 1;end;", 0, 298, 0, 297, 0, 0, 0);
        live(nothing, "loop 99;day 1;day 1;day 1;end;day 1;day 1;", 0, 300, 0, 299, 0, 0, 0);
        live(nothing, "loop 99;day 1;day 1;day 1;end;day 1;day 1;day 1;", 0, 300, 0, 299, 0, 0, 1);
        live(nothing, "loop 99;day 1;day 1;day 1;end;day 1;day 1;stop;", 0, 300, 0, 299, 0, 0, 1);
        live(nothing, "loop 99;day 1;day 1;day 1;end;day 1;stop;", 0, 300, 0, 298, 0, 0, 0);
        live(nothing, "loop 99;day 1;day 1;day 1;end;day 1;stop;day 1;", 0, 300, 0, 298, 0, 0, 0);
        live(nothing, "loop 99;day 1;day 1;day 1;end;loop 1;day 1;end;", 0, 300, 0, 298, 0, 0, 0);
        live(nothing, "loop 99;day 1;day 1;day 1;end;loop 2;day 1;end;", 0, 300, 0, 298, 0, 0, 1);
        live(nothing, "loop 99;day 1;day 1;day 1;end;day 1;loop 99;end;", 0, 300, 0, 298, 0, 0, 0);
        live(nothing, "loop 99;day 1;day 1;day 1;end;day 1;when lost 1;day 1;end;", 0, 300, 0, 298, 0, 0, 0);
        live(nothing, "loop 99;day 1;day 1;day 1;end;day 1;when lost 1;day 1;end;any;", 0, 300, 0, 298, 0, 0, 1);
        live(nothing, "loop 99;loop 99;loop 99;end;end;end;", 0, 300, 0, 0, 0, 0, 1);
        live(nothing, "loop 99;day 1;loop 99;day 1;end;end;", 0, 300, 0, 296, 0, 0, 1);
        live(nothing, "loop 99;lose 1;find 1;find 2;end;", 0, 298, 99, 0, 0, 0, 0);
    }

    /** By hand: the draws of a seed, each by 8 and by how many there are. */
    private static void any() {
        C.about("any");
        String slip = "word a;line 1 delete a;line 2;line 3;line 10;person p at 1;person q at 2;person r at 10;";
        for (int seed = 0; seed <= 9999; seed += 303) {
            ErrataLand x = Checks.land(slip);
            Checks.years(x, "any;any;any;any;");
            int[] at = {0, 1, 3};
            int[] numbers = {1, 2, 3, 10};
            int s = seed;
            int gone = 0;
            for (int i = 0; i < 4; i++) {
                s = (int) ((s * 2971L + 10771) % 65536);
                int person = s / 8 % 3;
                s = (int) ((s * 2971L + 10771) % 65536);
                int line = s / 8 % 4;
                if (Math.abs(numbers[at[person]] - numbers[line]) == 1) {
                    at[person] = line;
                    gone++;
                }
            }
            C.due(x, "live(" + seed + ")", x.live(seed), 4, 0);
            C.due("lived(2) of " + seed, x.lived(2), gone);
            C.due("lived(0) of " + seed, x.lived(0), 4 - gone);
            for (int person = 0; person < 3; person++) {
                C.due("placeOf(" + person + ") of " + seed, x.placeOf(person), at[person]);
            }
        }
        // Of seed 0 the first draws are of 10771, and of 32011412 - 488 times 65536 = 29844.
        ErrataLand x = Checks.land("line 1;line 2;line 3;person p at 1;person q at 2;");
        Checks.years(x, "any;");
        x.live(0);
        C.due("lived(2)", x.lived(2), 1);
        C.due("person 1346 % 2 = 0 goes to line 3730 % 3 = 1", x.placeOf(0), 1);
        C.due("person 1 stays", x.placeOf(1), 1);
    }

    private static void live() {
        C.about("promise 54");
        ErrataLand x = Checks.land(SLIP);
        C.no(x, "live(0): no years", x.live(0), 8);
        C.no(x, "live(-1)", x.live(-1), 5);
        C.no(x, "live(10000)", x.live(10000), 5);
        Checks.years(x, "day 1;");
        C.no(x, "live(10000)", x.live(10000), 5);
        C.due(x, "live(9999)", x.live(9999), 1, 0);
        C.due(x, "live(0)", x.live(0), 1, 0);
        C.due("many(4)", x.many(4), 2);
    }

    private static void lived() {
        C.about("promise 55");
        ErrataLand x = Checks.land(SLIP);
        C.no(x, "lived(0): none yet", x.lived(0), 8);
        C.no(x, "lived(5)", x.lived(5), 5);
        C.no(x, "lived(-1)", x.lived(-1), 5);
        x.live(0);
        C.no(x, "lived(0): none yet", x.lived(0), 8);
        x.mark();
        Checks.years(x, "day 3;find 9;");
        x.live(0);
        x.live(-1);
        C.due(x, "lived(1) behind a wrong call", x.lived(1), 3, 0);
        C.yes(x, "mean", x.mean(0, 3));
        x.back();
        C.due(x, "lived(1), which no mark takes back", x.lived(1), 3, 0);
        C.due(x, "lived(0), which no mean touches", x.lived(0), 1, 0);
        Checks.slip(x, "");
        C.due(x, "lived(1), which no slip takes away", x.lived(1), 3, 0);
        C.no(x, "lived(5)", x.lived(5), 5);
    }

    private static void mean() {
        C.about("promise 56");
        ErrataLand x = Checks.land(SLIP);
        C.no(x, "mean: no years", x.mean(0, 1), 8);
        C.no(x, "mean of 0", x.mean(0, 0), 5);
        Checks.years(x, "day 1;lose 9;go bob 30;");
        C.yes(x, "mean(0, 20)", x.mean(0, 20));
        C.fraction(x, "4 + 1 + 1 words", 6, 1);
        C.due("many(4)", x.many(4), 0);
        C.due("many(5)", x.many(5), 0);
        C.due("many(7)", x.many(7), 7);
        C.due("placeOf(1)", x.placeOf(1), 1);
        C.no(x, "lived(0): mean is no live", x.lived(0), 8);
        C.yes(x, "mean(9999, 1)", x.mean(9999, 1));
        C.yes(x, "mean(9980, 20)", x.mean(9980, 20));
        C.no(x, "mean(9981, 20)", x.mean(9981, 20), 5);
        C.no(x, "mean(10000, 1)", x.mean(10000, 1), 5);
        C.no(x, "mean(-1, 1)", x.mean(-1, 1), 5);
        C.no(x, "mean(0, 21)", x.mean(0, 21), 5);
        C.no(x, "mean(0, 0)", x.mean(0, 0), 5);
        C.no(x, "mean(greatest, 2)", x.mean(Integer.MAX_VALUE, 2), 5);
        C.fraction(x, "as it was", 6, 1);
        ErrataLand y = Checks.land("line 1;");
        Checks.years(y, "");
        C.yes(y, "mean without people", y.mean(0, 3));
        C.fraction(y, "without people", 0, 1);
    }

    private static void meanOfDraws() {
        C.about("promise 56, by live()");
        ErrataLand x = Checks.land("word a;line 1 delete a;line 2;line 3 after a insert a;person p at 2 says a a a a;"
            + "person q at 1 says a a a;");
        Checks.years(x, "any;day 1;any;day 2;any;day 1;");
        for (int many = 1; many <= 20; many++) {
            long sum = 0;
            for (int seed = 100; seed < 100 + many; seed++) {
                x.mark();
                x.live(seed);
                sum += x.many(7);
                x.back();
            }
            C.yes(x, "mean(100, " + many + ")", x.mean(100, many));
            C.due("the sum of " + many, x.top() * many, sum * x.bottom());
            for (int d = 2; d <= 20; d++) {
                C.due("a common divisor " + d, x.top() % d == 0 && x.bottom() % d == 0, false);
            }
            if (many % 2 == 0) {
                x = Checks.land("word a;line 1 delete a;line 2;line 3 after a insert a;person p at 2 says a a a a;"
                    + "person q at 1 says a a a;");
                Checks.years(x, "any;day 1;any;day 2;any;day 1;");
            }
        }
    }

    private static void mark() {
        C.about("promise 57");
        ErrataLand x = new ErrataLand();
        C.due(x, "mark()", x.mark(), 1, 0);
        C.due(x, "mark()", x.mark(), 2, 0);
        C.due(x, "mark()", x.mark(), 3, 0);
        C.no(x, "mark(), a fourth", x.mark(), 7);
        C.due(x, "back()", x.back(), 2, 0);
        C.due(x, "mark()", x.mark(), 3, 0);
    }

    private static void back() {
        C.about("promise 58");
        ErrataLand x = Checks.land(SLIP);
        C.no(x, "back() without a mark", x.back(), 8);
        Checks.years(x, "day 1;");
        x.mark();
        x.day(1);
        x.go(0, 1);
        x.lose(2, true);
        x.mark();
        Checks.fill(x, 0, 4, 4);
        Checks.fill(x, 1, 4, 4);
        x.teach(3, 0, 2);
        x.amend(3, 1, 0, 0, true);
        x.strike(0, 1);
        x.swap(2, 0, 1);
        x.rule(9);
        x.chance(0, 2, 1, 1, 2);
        Checks.years(x, "day 1;day 2;");
        C.due(x, "back()", x.back(), 1, 0);
        int[] many = {5, 4, 4, 4, 1, 4, 5, 6};
        for (int what = 0; what < many.length; what++) {
            C.due(x, "many(" + what + ")", x.many(what), many[what], 0);
        }
        C.due("placeOf(0)", x.placeOf(0), 1);
        C.due("length(3)", x.length(3), 0);
        C.due("edit(2, 0, 1)", x.edit(2, 0, 1), 1);
        C.due("live(0), of the years at the mark", x.live(0), 1);
        C.due("read(0, 1): a tray is not taken back", x.read(0, 1), 4);
        C.fraction(x, "what is not taken back", 1, 1);
        Checks.slip(x, "word z;");
        C.due(x, "back()", x.back(), 0, 0);
        C.due("many(4)", x.many(4), 0);
        C.due("many(5)", x.many(5), 0);
        C.due("many(7)", x.many(7), 7);
        C.due("placeOf(0)", x.placeOf(0), 0);
        C.due("years by the names of the slip that is back", Checks.years(x, "when has ann king;go cid 9;end;"), 2);
        C.due(x, "live(0)", x.live(0), 2, 0);
        C.due("placeOf(2)", x.placeOf(2), 0);
        C.no(x, "back() once more", x.back(), 8);
        C.due("placeOf(2), as nothing is taken back", x.placeOf(2), 0);
    }
}
