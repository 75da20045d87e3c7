/** Promises 9 to 20: the tape, SLIPS and their FAULTS, what is told of a SLIP. */
public final class TextsTest {
    private static final Checks C = new Checks();

    private static final String SLIP = "odds 4;word wept;word light;word king;word bride;word bridge;"
        + "line 9 for bride read bridge after wept insert light;line 10 delete king passim;"
        + "line 30 for light read king for king read light passim;line 40;"
        + "person ann at 9 says wept bride king;person bob at 10 says king king wept;person cid at 30 says light;"
        + "person dot at 40;";

    public static void main(String[] args) {
        feed();
        slip();
        slipChangesAll();
        tokens();
        faultsOfParts();
        faultsOfLines();
        faultsOfPeople();
        fault();
        many();
        line();
        lineOf();
        edit();
        people();
        copyRow();
        C.end();
    }

    private static void feed() {
        C.about("promise 9");
        ErrataLand x = new ErrataLand();
        for (int i = 1; i <= 45; i++) {
            C.due("feed " + i, x.feed(0x20202020, 0x20202020, 0x20202020, 0x20202020, 0x20202020), 20 * i);
        }
        C.due("feed 46", x.feed(0, 0, 0, 0, 0), -1);
        C.no(x, "slip(901)", x.slip(901), 5);
        C.due(x, "slip(900)", x.slip(900), 0, 0);
        C.due("feed of an empty tape", x.feed(0x776F7264, 0x2061623B, 0, 0, 0), 20);
        C.due(x, "slip(8), 'word ab;'", x.slip(8), 0, 0);
        C.due("many(0)", x.many(0), 1);
        C.due("status() behind feed", x.status(), 0);
    }

    private static void slip() {
        C.about("promise 10");
        ErrataLand x = new ErrataLand();
        C.due(x, "slip", Checks.slip(x, SLIP), 4, 0);
        C.no(x, "slip(-1)", x.slip(-1), 5);
        Checks.feed(x, "word a; line 1;");
        C.no(x, "slip(21), more than there is", x.slip(21), 5);
        C.no(x, "slip(-1)", x.slip(-1), 5);
        C.due("many(1), of the old one", x.many(1), 4);
        C.due(x, "slip(7) of a tape that has stayed", x.slip(7), 0, 0);
        C.no(x, "slip(1): the rest is gone", x.slip(1), 5);
        Checks.feed(x, "word b; word 1;");
        C.no(x, "slip with a fault", x.slip(15), 10);
        C.no(x, "slip(1): the tape is empty", x.slip(1), 5);
        C.due("many(0), of the old one", x.many(0), 1);
        C.due(x, "slip(0)", x.slip(0), 0, 0);
        C.due("many(0)", x.many(0), 0);
    }

    private static void slipChangesAll() {
        C.about("promise 10, what a slip takes with it");
        ErrataLand x = Checks.land(SLIP);
        C.due("years", Checks.years(x, "day 1;"), 1);
        x.mark();
        x.day(3);
        x.lose(1, true);
        x.live(1);
        C.due(x, "slip", Checks.slip(x, "word b; line 7 delete b; line 9; person ann at 7 says b b;"), 2, 0);
        int[] many = {1, 2, 1, 2, 0, 0, 1, 2};
        for (int what = 0; what < many.length; what++) {
            C.due(x, "many(" + what + ")", x.many(what), many[what], 0);
        }
        C.no(x, "live(0): no years", x.live(0), 8);
        C.due(x, "lived(1), whatever came since", x.lived(1), 1, 0);
        C.due(x, "back(): marks stay", x.back(), 0, 0);
        C.due("many(0)", x.many(0), 5);
        C.due("many(3)", x.many(3), 4);
        C.due(x, "live(0)", x.live(0), 1, 0);
    }

    /** A SLIP that is taken tells how many LINES; another one its FAULT and the place of it. */
    private static void taken(String text, int lines) {
        ErrataLand x = new ErrataLand();
        C.due(x, "'" + text + "'", Checks.slip(x, text), lines, 0);
        C.due("'" + text + "', fault(0)", x.fault(0), 0);
        C.due("'" + text + "', fault(1)", x.fault(1), -1);
    }

    private static void faulty(String text, int fault, int place) {
        ErrataLand x = new ErrataLand();
        C.due(x, "'" + text + "'", Checks.slip(x, text), -1, 10);
        C.due("'" + text + "', fault(0)", x.fault(0), fault);
        C.due("'" + text + "', fault(1)", x.fault(1), place);
    }

    private static void tokens() {
        C.about("the tokens");
        taken("", 0);
        taken(" \n ", 0);
        taken("word\na;word b\n;line 1for a read b delete a;", 1);
        taken("line 0001;line 999;", 2);
        taken("word abcdefgh; word oddsx; word dayx;", 0);
        taken("odds 0016;", 0);
        taken("word azyb;word a;word z;", 0);
        faulty("line 00001;", 1, 5);
        faulty("odds 12345;", 1, 5);
        faulty("word Abc;", 1, 5);
        faulty("word a;\tword b;", 1, 7);
        faulty("word a\r;", 1, 6);
        faulty("word a,", 1, 6);
        faulty("word \u00e9;", 1, 5);
        faulty("word \0;", 1, 5);
        faulty("word abcdefghi;", 2, 5);
        faulty("abcdefghi", 2, 0);
        faulty("line 1 abcdefghi", 2, 7);
        faulty("  ;", 2, 2);
        faulty("< ;", 2, 0);
        faulty("word =;", 2, 5);
        faulty("odds >", 2, 5);
        faulty("odds 12345678901234567890;", 1, 5);
        faulty("5", 2, 0);
    }

    private static void faultsOfParts() {
        C.about("faults of a slip");
        faulty("odds", 2, 4);
        faulty("odds  ", 2, 6);
        faulty("odds 3", 2, 6);
        faulty("odds 3 \n", 2, 8);
        faulty("odds 3 3;", 2, 7);
        faulty("odds 3 59", 2, 7);
        faulty("odds 17;", 4, 5);
        faulty("odds a;", 2, 5);
        faulty("odds 1; odds 99999;", 5, 8);
        faulty("word a; odds 1; odds x;", 5, 16);
        faulty("day 1;", 2, 0);
        faulty("word", 2, 4);
        faulty("word 1;", 2, 5);
        faulty("word ;", 2, 5);
        faulty("word a b;", 2, 7);
        faulty("word a; word a;", 3, 13);
        for (String keyword : ("odds word line for read passim delete after insert person at says day go lose find any when "
            + "lost long has loop end stop").split(" ")) {
            faulty("word " + keyword + ";", 2, 5);
        }
        taken("word a;word b;word c;word d;word e;word f;word g;word h;", 0);
        faulty("word a;word b;word c;word d;word e;word f;word g;word h;word a;", 6, 56);
        faulty("word a;word b;word c;word d;word e;word f;word g;word h;word 1;", 6, 56);
    }

    private static void faultsOfLines() {
        C.about("faults of lines");
        String ab = "word a;word b;";
        faulty("line", 2, 4);
        faulty("line a;", 2, 5);
        faulty("line 0;", 4, 5);
        faulty("line 1000;", 4, 5);
        faulty("line 9999;", 4, 5);
        faulty("line 5;line 6;line 5;", 5, 19);
        faulty("line 5", 2, 6);
        faulty("line 5 a;", 2, 7);
        faulty("line 5 read;", 2, 7);
        taken("line 1;line 2;line 3;line 4;line 5;line 6;line 7;line 8;", 8);
        faulty("line 1;line 2;line 3;line 4;line 5;line 6;line 7;line 8;line 1;", 6, 56);
        taken(ab + "line 1 after a insert a;", 1);
        faulty(ab + "line 1 for a read a;", 5, 32);
        faulty(ab + "line 1 for a read c;", 3, 32);
        faulty(ab + "line 1 for c read c;", 3, 25);
        faulty(ab + "line 1 for a read for;", 2, 32);
        faulty(ab + "line 1 for a b;", 2, 27);
        faulty(ab + "line 1 for a;", 2, 26);
        faulty(ab + "line 1 after a;", 2, 28);
        faulty(ab + "line 1 for a insert b;", 2, 27);
        faulty(ab + "line 1 after a read b;", 2, 29);
        faulty(ab + "line 1 after a insert b passim;", 2, 38);
        faulty(ab + "line 1 delete a passim passim;", 2, 37);
        faulty(ab + "line 1 delete c;", 3, 28);
        faulty(ab + "line 1 delete;", 2, 27);
        faulty(ab + "line 1 delete a", 2, 29);
        taken(ab + "line 1 delete a delete a delete a passim for a read b passim;", 1);
        faulty(ab + "line 1 delete a delete a delete a delete a delete 1;", 6, 57);
        faulty(ab + "line 1 delete a delete a delete a delete a for a read b;", 6, 57);
        faulty(ab + "line 1 delete a delete a delete a delete a after a insert b;", 6, 57);
        faulty(ab + "line 1;person p at 1;line 2 delete p;", 3, 49);
        faulty("line 1 delete a;word a;", 3, 14);
    }

    private static void faultsOfPeople() {
        C.about("faults of people");
        String one = "word a;line 1;";
        taken(one + "person p at 1;", 1);
        taken(one + "person p at 0001 says a a a a a a a a;", 1);
        faulty(one + "person", 2, 20);
        faulty(one + "person 1", 2, 21);
        faulty(one + "person a at 1;", 3, 21);
        faulty(one + "person p at 1; person p at 1;", 3, 36);
        faulty(one + "person p at 1; word p;", 3, 34);
        faulty(one + "person at at 1;", 2, 21);
        faulty(one + "person p 1;", 2, 23);
        faulty(one + "person p at a;", 2, 26);
        faulty(one + "person p at 2;", 3, 26);
        faulty(one + "person p at 0;", 3, 26);
        faulty(one + "person p at 1000;", 3, 26);
        faulty(one + "person p at 00001;", 1, 26);
        faulty(one + "person p at 1 a;", 2, 28);
        faulty(one + "person p at 1 says;", 2, 32);
        faulty(one + "person p at 1 says b;", 3, 33);
        faulty(one + "person p at 1 says p;", 3, 33);
        faulty(one + "person p at 1 says a at;", 2, 35);
        faulty(one + "person p at 1 says a 1;", 2, 35);
        faulty(one + "person p at 1 says a", 2, 34);
        faulty(one + "person p at 1 says a a a a a a a a a;", 6, 49);
        faulty(one + "person p at 1 says a a a a a a a a b;", 3, 49);
        faulty(one + "person p at 1 says a a a a a a a a at;", 2, 49);
        String six = one + "person p at 1;person q at 1;person r at 1;person s at 1;person t at 1;person u at 1;";
        taken(six, 1);
        faulty(six + "person a at 2;", 6, 98);
    }

    private static void fault() {
        C.about("promise 12");
        ErrataLand x = new ErrataLand();
        x.slip(5);
        C.due("fault(0) behind a slip of status 5", x.fault(0), -1);
        Checks.slip(x, "word 5;");
        C.due("fault(0)", x.fault(0), 2);
        C.due("fault(1)", x.fault(1), 5);
        C.due("fault(2)", x.fault(2), -1);
        C.due("fault(-1)", x.fault(-1), -1);
        x.years(1);
        C.due("fault(0) behind years of status 5", x.fault(0), 2);
        Checks.years(x, "day 1;");
        C.due("fault(0) behind good years", x.fault(0), 0);
        C.due("fault(1) behind good years", x.fault(1), -1);
        x.mark();
        Checks.years(x, "end;");
        x.back();
        C.due("fault(0), which no mark takes back", x.fault(0), 2);
        C.due("fault(1), which no mark takes back", x.fault(1), 0);
    }

    private static void many() {
        C.about("promise 13");
        ErrataLand x = Checks.land(SLIP);
        int[] many = {5, 4, 4, 4, 0, 0, 5, 7};
        for (int what = 0; what < many.length; what++) {
            C.due(x, "many(" + what + ")", x.many(what), many[what], 0);
        }
        x.lose(1, true);
        x.lose(3, true);
        x.day(7);
        C.due("many(4)", x.many(4), 7);
        C.due("many(5)", x.many(5), 10);
        C.no(x, "many(8)", x.many(8), 5);
        C.no(x, "many(-1)", x.many(-1), 5);
    }

    private static void line() {
        C.about("promise 14");
        ErrataLand x = Checks.land(SLIP);
        int[][] told = {{9, 2, 0, 27, 1}, {10, 1, 0, 4, 2}, {30, 2, 0, 6, 4}, {40, 0, 0, 0, 8}};
        for (int line = 0; line < told.length; line++) {
            for (int what = 0; what < 5; what++) {
                C.due(x, "line(" + line + ", " + what + ")", x.line(line, what), told[line][what], 0);
            }
        }
        x.go(0, 1);
        C.due("line(1, 4)", x.line(1, 4), 3);
        C.due("line(0, 4)", x.line(0, 4), 0);
        x.lose(2, true);
        C.due("line(2, 2)", x.line(2, 2), 1);
        x.amend(3, 1, 3, 0, false);
        C.due("line(3, 3): what is not looked at is not there", x.line(3, 3), 8);
        C.no(x, "line(4, 0)", x.line(4, 0), 2);
        C.no(x, "line(-1, 9)", x.line(-1, 9), 2);
        C.no(x, "line(0, 5)", x.line(0, 5), 5);
        C.no(x, "line(0, -1)", x.line(0, -1), 5);
    }

    private static void lineOf() {
        C.about("promise 15");
        ErrataLand x = Checks.land("line 999;line 1;line 20;");
        C.due(x, "lineOf(999)", x.lineOf(999), 0, 0);
        C.due(x, "lineOf(1)", x.lineOf(1), 1, 0);
        x.lose(2, true);
        C.due(x, "lineOf(20), lost", x.lineOf(20), 2, 0);
        C.no(x, "lineOf(0)", x.lineOf(0), 5);
        C.no(x, "lineOf(1000)", x.lineOf(1000), 5);
        C.no(x, "lineOf(2)", x.lineOf(2), 8);
    }

    private static void edit() {
        C.about("promise 16");
        ErrataLand x = Checks.land("word a;word b;word c;line 1 for a read b for b read c passim delete c delete a passim;"
            + "line 2 after c insert a;");
        int[][] told = {{0, 0, 1, 0}, {0, 1, 2, 1}, {1, 2, -1, 0}, {1, 0, -1, 1}};
        for (int edit = 0; edit < told.length; edit++) {
            for (int what = 0; what < 4; what++) {
                int want = told[edit][what];
                C.due(x, "edit(0, " + edit + ", " + what + ")", x.edit(0, edit, what), want, want < 0 ? 8 : 0);
            }
        }
        C.due(x, "edit(1, 0, 0)", x.edit(1, 0, 0), 2, 0);
        C.due(x, "edit(1, 0, 1)", x.edit(1, 0, 1), 2, 0);
        C.due(x, "edit(1, 0, 2)", x.edit(1, 0, 2), 0, 0);
        C.due(x, "edit(1, 0, 3)", x.edit(1, 0, 3), 0, 0);
        C.no(x, "edit(2, 0, 0)", x.edit(2, 0, 0), 2);
        C.no(x, "edit(1, 1, 0)", x.edit(1, 1, 0), 2);
        C.no(x, "edit(1, -1, 9)", x.edit(1, -1, 9), 2);
        C.no(x, "edit(0, 2, 4)", x.edit(0, 2, 4), 5);
        C.no(x, "edit(0, 2, -1)", x.edit(0, 2, -1), 5);
    }

    private static void people() {
        C.about("promises 17 to 19");
        ErrataLand x = Checks.land(SLIP);
        int[] lengths = {3, 3, 1, 0};
        for (int person = 0; person < 4; person++) {
            C.due(x, "placeOf(" + person + ")", x.placeOf(person), person, 0);
            C.due(x, "length(" + person + ")", x.length(person), lengths[person], 0);
        }
        C.due(x, "says(0, 0)", x.says(0, 0), 0, 0);
        C.due(x, "says(0, 1)", x.says(0, 1), 3, 0);
        C.due(x, "says(0, 2)", x.says(0, 2), 2, 0);
        C.no(x, "says(0, 3)", x.says(0, 3), 8);
        C.no(x, "says(0, -1)", x.says(0, -1), 8);
        C.no(x, "says(3, 0)", x.says(3, 0), 8);
        for (int person = -1; person <= 4; person += 5) {
            C.no(x, "placeOf(" + person + ")", x.placeOf(person), 2);
            C.no(x, "length(" + person + ")", x.length(person), 2);
            C.no(x, "says(" + person + ", 9)", x.says(person, 9), 2);
        }
        ErrataLand y = Checks.land("word a;word b;word c;word d;word e;word f;word g;word h;line 1;"
            + "person p at 1 says h g f e d c b a;");
        for (int k = 0; k < 8; k++) {
            C.due(y, "says(0, " + k + ")", y.says(0, k), 7 - k, 0);
        }
        C.no(y, "says(0, 8)", y.says(0, 8), 8);
    }

    private static void copyRow() {
        C.about("promise 20");
        ErrataLand x = Checks.land(SLIP);
        Checks.fill(x, 0, 9, 9, 9, 9);
        C.due(x, "copyRow(0, 0)", x.copyRow(0, 0), 3, 0);
        C.due("tray 0", Checks.digits(x, 0, 4), 10329);
        C.due(x, "copyRow(3, 0)", x.copyRow(3, 0), 0, 0);
        C.due("tray 0", Checks.digits(x, 0, 4), 10329);
        x.tray(1, 0, 2);
        C.no(x, "copyRow(0, 1)", x.copyRow(0, 1), 4);
        C.no(x, "copyRow(0, 2)", x.copyRow(0, 2), 3);
        C.no(x, "copyRow(4, 2)", x.copyRow(4, 2), 2);
        C.no(x, "copyRow(4, 4)", x.copyRow(4, 4), 1);
        C.no(x, "copyRow(0, -1)", x.copyRow(0, -1), 1);
    }
}
