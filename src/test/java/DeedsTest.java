/** Promises 21 to 28: DAYS, going, what is lost and found, taught, amended, struck, swapped and ruled. */
public final class DeedsTest {
    private static final Checks C = new Checks();

    private static final String SLIP = "odds 4;word wept;word light;word king;word bride;word bridge;"
        + "line 9 for bride read bridge after wept insert light;line 10 delete king passim;"
        + "line 30 for light read king for king read light passim;line 40;"
        + "person ann at 9 says wept bride king;person bob at 10 says king king wept;person cid at 30 says light;"
        + "person dot at 40;";

    public static void main(String[] args) {
        day();
        dayToAndFro();
        lastDay();
        go();
        lose();
        teach();
        amend();
        strike();
        swap();
        rule();
        C.end();
    }

    private static String said(ErrataLand x, int person) {
        StringBuilder made = new StringBuilder();
        for (int k = 0; k < x.length(person); k++) {
            made.append(x.says(person, k));
        }
        return made.toString();
    }

    private static void says(ErrataLand x, int person, String row) {
        C.due("person " + person + " says " + said(x, person) + ", due is " + row, said(x, person).equals(row), true);
    }

    private static void day() {
        C.about("promise 21");
        ErrataLand x = Checks.land(SLIP);
        C.due(x, "day(1)", x.day(1), 3, 0);
        says(x, 0, "0142");
        says(x, 1, "0");
        says(x, 2, "1");
        says(x, 3, "");
        C.due(x, "day(4)", x.day(4), 1, 0);
        says(x, 0, "01111142");
        C.due(x, "day(1): no room", x.day(1), 0, 0);
        C.due("many(4)", x.many(4), 6);
        x.lose(2, true);
        Checks.fill(x, 0, 2);
        x.teach(2, 0, 1);
        C.due(x, "day(1), its line lost", x.day(1), 0, 0);
        says(x, 2, "2");
        x.lose(2, false);
        C.due(x, "day(1), its line found", x.day(1), 4, 0);
        says(x, 2, "1");
        C.no(x, "day(0)", x.day(0), 5);
        C.no(x, "day(100)", x.day(100), 5);
        C.no(x, "day(-1)", x.day(-1), 5);
        C.due("many(4)", x.many(4), 8);
    }

    private static void dayToAndFro() {
        C.about("promise 21, what is the same at the end");
        ErrataLand x = Checks.land("word a;word b;word c;line 1 for a read c for b read a for c read b;"
            + "person p at 1 says a b;person q at 1 says a;");
        C.due(x, "day(1)", x.day(1), 3, 0);
        says(x, 0, "ba".replace('a', '0').replace('b', '1'));
        says(x, 1, "1");
        C.due(x, "day(2): as ahead again", x.day(2), 0, 0);
        C.due(x, "day(99)", x.day(99), 3, 0);
        says(x, 0, "01");
    }

    private static void lastDay() {
        C.about("promise 21, the last day");
        ErrataLand x = new ErrataLand();
        for (int i = 0; i < 101; i++) {
            x.day(99);
        }
        C.due(x, "many(4)", x.many(4), 9999, 0);
        C.no(x, "day(1)", x.day(1), 7);
        C.no(x, "day(100)", x.day(100), 5);
        ErrataLand y = new ErrataLand();
        for (int i = 0; i < 100; i++) {
            y.day(99);
        }
        y.day(90);
        C.no(y, "day(10)", y.day(10), 7);
        C.due("many(4)", y.many(4), 9990);
        C.due(y, "day(9)", y.day(9), 0, 0);
    }

    private static void go() {
        C.about("promise 22");
        ErrataLand x = Checks.land(SLIP);
        C.due(x, "go(0, 1), one number behind", x.go(0, 1), 2, 0);
        C.due("placeOf(0)", x.placeOf(0), 1);
        C.no(x, "go(0, 1), his own", x.go(0, 1), 9);
        C.no(x, "go(0, 3), not joined", x.go(0, 3), 9);
        C.due(x, "go(0, 2), by a word", x.go(0, 2), 2, 0);
        C.due(x, "go(2, 0)", x.go(2, 0), 1, 0);
        x.lose(1, true);
        C.no(x, "go(0, 1), lost", x.go(0, 1), 9);
        C.no(x, "go(1, 2), from what is lost", x.go(1, 2), 9);
        C.due("placeOf(1)", x.placeOf(1), 1);
        C.no(x, "go(4, 0)", x.go(4, 0), 2);
        C.no(x, "go(-1, 0)", x.go(-1, 0), 2);
        C.no(x, "go(0, 4)", x.go(0, 4), 2);
        C.no(x, "go(0, -1)", x.go(0, -1), 2);
    }

    private static void lose() {
        C.about("promise 23");
        ErrataLand x = Checks.land(SLIP);
        C.no(x, "lose(0, false), as it is", x.lose(0, false), 9);
        C.yes(x, "lose(0, true)", x.lose(0, true));
        C.no(x, "lose(0, true) again", x.lose(0, true), 9);
        C.due("line(0, 2)", x.line(0, 2), 1);
        C.due("placeOf(0): a lost line keeps its people", x.placeOf(0), 0);
        C.yes(x, "lose(0, false)", x.lose(0, false));
        C.due("many(5)", x.many(5), 0);
        C.no(x, "lose(4, true)", x.lose(4, true), 2);
        C.no(x, "lose(-1, false)", x.lose(-1, false), 2);
    }

    private static void teach() {
        C.about("promise 24");
        ErrataLand x = Checks.land(SLIP);
        Checks.fill(x, 0, 4, 0, 1, 2, 3, 4, 0, 1, 2, 5);
        C.due(x, "teach(3, 0, 8)", x.teach(3, 0, 8), 8, 0);
        says(x, 3, "40123401");
        C.due(x, "teach(0, 0, 1)", x.teach(0, 0, 1), 1, 0);
        says(x, 0, "4");
        C.due(x, "teach(0, 0, 0)", x.teach(0, 0, 0), 0, 0);
        says(x, 0, "");
        C.no(x, "teach(0, 0, 9)", x.teach(0, 0, 9), 5);
        C.no(x, "teach(0, 0, -1)", x.teach(0, 0, -1), 5);
        C.no(x, "teach(0, 0, 11)", x.teach(0, 0, 11), 4);
        x.write(0, 1, 5);
        C.no(x, "teach of what is no word", x.teach(0, 0, 2), 5);
        x.write(0, 1, -1);
        C.no(x, "teach of -1", x.teach(0, 0, 2), 5);
        C.due(x, "teach of what is ahead of it", x.teach(0, 0, 1), 1, 0);
        C.no(x, "teach(4, 1, 9)", x.teach(4, 1, 9), 2);
        C.no(x, "teach(-1, 0, 1)", x.teach(-1, 0, 1), 2);
        C.no(x, "teach(4, 4, 1)", x.teach(4, 4, 1), 1);
        C.no(x, "teach(0, 1, 9)", x.teach(0, 1, 9), 3);
        x.tray(1, 3, 2);
        x.write(1, 0, 1L << 32);
        C.no(x, "teach of a number beyond an int", x.teach(0, 1, 1), 5);
        says(x, 0, "4");
    }

    private static void amend() {
        C.about("promise 25");
        ErrataLand x = Checks.land(SLIP);
        C.due(x, "amend FOR", x.amend(3, 0, 0, 1, true), 1, 0);
        C.due("its kind", x.edit(3, 0, 0), 0);
        C.due("its passim", x.edit(3, 0, 3), 1);
        C.due(x, "amend DELETE, other not looked at", x.amend(3, 1, 2, 99, false), 2, 0);
        C.due("its word", x.edit(3, 1, 1), 2);
        C.no(x, "its other word", x.edit(3, 1, 2), 8);
        C.due(x, "amend AFTER a word and itself", x.amend(3, 2, 4, 4, true), 3, 0);
        C.due("its other word", x.edit(3, 2, 2), 4);
        C.due("its passim", x.edit(3, 2, 3), 0);
        C.no(x, "amend FOR a word and itself", x.amend(3, 0, 1, 1, false), 5);
        C.no(x, "amend of kind 3", x.amend(3, 3, 0, 1, false), 5);
        C.no(x, "amend of kind -1", x.amend(3, -1, 0, 1, false), 5);
        C.no(x, "amend of no line", x.amend(4, 3, 0, 1, false), 2);
        C.no(x, "amend of no word", x.amend(3, 1, 5, 1, false), 2);
        C.no(x, "amend of no word, -1", x.amend(3, 3, -1, 1, false), 2);
        C.no(x, "amend of no other word", x.amend(3, 2, 0, 5, false), 2);
        C.no(x, "amend of no other word, -1", x.amend(3, 0, 0, -1, false), 2);
        C.due(x, "amend, a fourth", x.amend(3, 1, 4, -1, true), 4, 0);
        C.due("its passim", x.edit(3, 3, 3), 1);
        C.no(x, "amend, a fifth", x.amend(3, 1, 4, 0, true), 7);
        C.no(x, "amend, a fifth of no kind", x.amend(3, 9, 4, 0, true), 5);
        C.due("line(3, 1)", x.line(3, 1), 4);
        C.due("line(3, 3)", x.line(3, 3), 23);
        C.due("joined(0, 3), by its words now", x.joined(0, 3), 1);
        C.due("many(6)", x.many(6), 9);
    }

    private static void strike() {
        C.about("promise 26");
        ErrataLand x = Checks.land("word a;word b;word c;word d;line 1 delete a delete b delete c delete d;");
        C.no(x, "strike(0, 4)", x.strike(0, 4), 2);
        C.no(x, "strike(0, -1)", x.strike(0, -1), 2);
        C.no(x, "strike(1, 0)", x.strike(1, 0), 2);
        C.due(x, "strike(0, 1)", x.strike(0, 1), 3, 0);
        C.due("edit(0, 0, 1)", x.edit(0, 0, 1), 0);
        C.due("edit(0, 1, 1)", x.edit(0, 1, 1), 2);
        C.due("edit(0, 2, 1)", x.edit(0, 2, 1), 3);
        C.due(x, "strike(0, 2)", x.strike(0, 2), 2, 0);
        C.due("line(0, 3)", x.line(0, 3), 5);
        C.due(x, "strike(0, 0)", x.strike(0, 0), 1, 0);
        C.due("edit(0, 0, 1)", x.edit(0, 0, 1), 2);
        C.due(x, "strike(0, 0)", x.strike(0, 0), 0, 0);
        C.no(x, "strike(0, 0) of none", x.strike(0, 0), 2);
    }

    private static void swap() {
        C.about("promise 27");
        ErrataLand x = Checks.land("word a;word b;word c;line 1 delete a delete b passim after c insert a;line 2;");
        C.yes(x, "swap(0, 0, 2)", x.swap(0, 0, 2));
        C.due("edit(0, 0, 0)", x.edit(0, 0, 0), 2);
        C.due("edit(0, 1, 3)", x.edit(0, 1, 3), 1);
        C.due("edit(0, 2, 1)", x.edit(0, 2, 1), 0);
        C.yes(x, "swap(0, 1, 0)", x.swap(0, 1, 0));
        C.due("edit(0, 0, 3)", x.edit(0, 0, 3), 1);
        C.due("edit(0, 1, 2)", x.edit(0, 1, 2), 0);
        C.no(x, "swap(0, 1, 1)", x.swap(0, 1, 1), 9);
        C.no(x, "swap(0, 3, 3)", x.swap(0, 3, 3), 2);
        C.no(x, "swap(0, 0, 3)", x.swap(0, 0, 3), 2);
        C.no(x, "swap(0, -1, 0)", x.swap(0, -1, 0), 2);
        C.no(x, "swap(1, 0, 0)", x.swap(1, 0, 0), 2);
        C.no(x, "swap(2, 0, 1)", x.swap(2, 0, 1), 2);
    }

    private static void rule() {
        C.about("promise 28");
        ErrataLand x = new ErrataLand();
        C.yes(x, "rule(0)", x.rule(0));
        C.due("many(3)", x.many(3), 0);
        C.yes(x, "rule(16)", x.rule(16));
        C.no(x, "rule(17)", x.rule(17), 5);
        C.no(x, "rule(-1)", x.rule(-1), 5);
        C.due("many(3)", x.many(3), 16);
    }
}
