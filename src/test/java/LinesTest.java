/** Promises 29 to 41: what a LINE makes of a ROW, ways among LINES, what is omitted. */
public final class LinesTest {
    private static final Checks C = new Checks();

    /** Tray 0 has the row that is asked about, tray 1 room for one, tray 2 is missing, tray 3 is of 2. */
    private static ErrataLand asking(String lines, int... row) {
        ErrataLand x = Checks.land("word a;word b;word c;word d;" + lines);
        Checks.fill(x, 0, row);
        Checks.fill(x, 1, 9, 9, 9, 9, 9, 9, 9, 9, 9);
        x.tray(3, 0, 2);
        return x;
    }

    public static void main(String[] args) {
        edits();
        right();
        vain();
        makes();
        second();
        chance();
        same();
        circles();
        circlesOfMany();
        joined();
        route();
        routeFirst();
        reach();
        omitted();
        nextOmitted();
        wrongRows();
        C.end();
    }

    /** What a line of these edits makes of a row, as digits behind a 1. */
    private static void makesOf(String edits, long want, int... row) {
        ErrataLand x = asking("line 1 " + edits + ";", row);
        int many = x.right(0, row.length, 0, 1);
        C.due(edits, many < 0 ? -1 : Checks.digits(x, 1, many), want);
    }

    private static void edits() {
        C.about("what edits do");
        makesOf("for a read b", 1210, 2, 0, 0);
        makesOf("for a read b passim", 12311, 2, 3, 0, 0);
        makesOf("for a read b passim", 11121, 0, 1, 2, 0);
        makesOf("for a read b for b read a passim", 1002, 1, 0, 2);
        makesOf("delete a", 11020, 0, 1, 0, 2, 0);
        makesOf("delete a passim", 112, 0, 1, 0, 2, 0);
        makesOf("delete a passim", 1, 0, 0);
        makesOf("delete a delete a delete a", 12, 0, 0, 2);
        makesOf("after a insert b", 12010, 2, 0, 0);
        makesOf("after a insert a", 1200, 2, 0);
        makesOf("after a insert b", 123331, 2, 3, 3, 3, 1);
        makesOf("after a insert b", 122222201, 2, 2, 2, 2, 2, 2, 0);
        makesOf("after a insert b", 122222220, 2, 2, 2, 2, 2, 2, 2, 0);
        makesOf("after a insert b", 101222222, 0, 2, 2, 2, 2, 2, 2);
        makesOf("after d insert d after d insert c delete d for d read a", 120, 3);
        makesOf("for c read d", 101, 0, 1);
    }

    private static void right() {
        C.about("promise 29");
        ErrataLand x = asking("line 1 after a insert b;line 2 delete a passim;", 0, 2, 0);
        C.due(x, "right(0, 3, 0, 1)", x.right(0, 3, 0, 1), 4, 0);
        C.due("tray 1", Checks.digits(x, 1, 9), 1012099999L);
        C.due(x, "right(0, 0, 0, 1)", x.right(0, 0, 0, 1), 0, 0);
        C.due(x, "right(0, 2, 1, 0), the same tray", x.right(0, 2, 1, 0), 1, 0);
        C.due("tray 0", Checks.digits(x, 0, 3), 1220);
        x.lose(1, true);
        C.due(x, "right(0, 3, 1, 1), lost", x.right(0, 3, 1, 1), 2, 0);
        C.no(x, "right(0, 3, 0, 0), no room in the same tray", x.right(0, 3, 0, 0), 4);
        C.no(x, "right(0, 3, 0, 3), no room in the other tray", x.right(0, 3, 0, 3), 4);
        C.due("tray 0", Checks.digits(x, 0, 3), 1220);
        C.due(x, "right(0, 3, 1, 3), just room", x.right(0, 3, 1, 3), 2, 0);
        C.no(x, "right, no such other tray ahead of no line", x.right(2, 9, 5, 4), 1);
        C.no(x, "right, no line ahead of a missing tray", x.right(2, 9, 5, 2), 2);
        C.no(x, "right, the other tray missing ahead of too few", x.right(0, 4, 0, 2), 3);
        C.no(x, "right, too few", x.right(0, 4, 0, 1), 4);
        x.write(0, 0, 4);
        C.no(x, "right, no word ahead of no room", x.right(0, 3, 0, 3), 5);
        C.no(x, "right, n below 0", x.right(0, -1, 0, 1), 5);
        C.no(x, "right, n of 9", x.right(1, 9, 0, 1), 5);
    }

    private static void vain() {
        C.about("promise 30");
        ErrataLand x = asking("line 1 delete a delete a for b read c delete b;line 2 after a insert a after a insert b;"
            + "line 3;", 0, 1, 2, 2, 2, 2, 2);
        C.due(x, "vain(0, 2, 0)", x.vain(0, 2, 0), 10, 0);
        C.due(x, "vain(0, 0, 0)", x.vain(0, 0, 0), 15, 0);
        C.due(x, "vain(0, 7, 1): the second has no room", x.vain(0, 7, 1), 2, 0);
        C.due(x, "vain(0, 6, 1)", x.vain(0, 6, 1), 0, 0);
        C.due(x, "vain(0, 7, 2)", x.vain(0, 7, 2), 0, 0);
    }

    private static void makes() {
        C.about("promise 31");
        ErrataLand x = asking("line 1 delete a;line 2;", 0, 1, 0);
        Checks.fill(x, 1, 1, 0, 0);
        C.due(x, "makes(0, 3, 0, 1, 2)", x.makes(0, 3, 0, 1, 2), 1, 0);
        C.due(x, "makes(0, 3, 0, 1, 3)", x.makes(0, 3, 0, 1, 3), 0, 0);
        C.due(x, "makes(0, 3, 0, 1, 1)", x.makes(0, 3, 0, 1, 1), 0, 0);
        C.due(x, "makes(0, 1, 0, 1, 0)", x.makes(0, 1, 0, 1, 0), 1, 0);
        C.due(x, "makes(0, 3, 1, 0, 3), itself", x.makes(0, 3, 1, 0, 3), 1, 0);
        x.lose(1, true);
        x.lose(0, true);
        C.due(x, "makes(0, 3, 0, 1, 2), lost", x.makes(0, 3, 0, 1, 2), 1, 0);
    }

    private static void second() {
        C.about("promise 32");
        ErrataLand x = asking("line 1;", 0, 1, 2, 3, 0, 1, 2, 3);
        Checks.fill(x, 1, 1, 2, 3, 0, 1, 2, 3, 0);
        C.due(x, "second of one and itself", x.second(0, 8, 0, 8), 0, 0);
        C.due(x, "second of what is moved by one", x.second(0, 8, 1, 8), 2, 0);
        C.due(x, "second from nothing", x.second(0, 0, 1, 8), 8, 0);
        C.due(x, "second to nothing", x.second(0, 5, 1, 0), 5, 0);
        C.due(x, "second of nothing", x.second(0, 0, 1, 0), 0, 0);
        C.due(x, "second of one word and another one", x.second(0, 1, 1, 1), 1, 0);
        Checks.fill(x, 1, 0, 2, 1, 3);
        C.due(x, "second of two changed about", x.second(0, 4, 1, 4), 2, 0);
        Checks.fill(x, 1, 3, 3, 0);
        C.due(x, "second(0, 4, 1, 3)", x.second(0, 4, 1, 3), 4, 0);
        C.due(x, "second(1, 3, 0, 5)", x.second(1, 3, 0, 5), 3, 0);
    }

    private static void chance() {
        C.about("promise 33");
        ErrataLand x = asking("odds 4;line 1 for a read b after d insert c;line 2;line 3 delete c for a read b;", 0, 3, 2);
        Checks.fill(x, 1, 1, 3, 2, 2);
        C.yes(x, "chance of both done", x.chance(0, 3, 0, 1, 4));
        C.fraction(x, "both", 9, 16);
        C.yes(x, "chance of none done", x.chance(0, 3, 0, 0, 3));
        C.fraction(x, "none", 1, 16);
        C.yes(x, "chance of what can't be", x.chance(0, 3, 0, 1, 2));
        C.fraction(x, "what can't be", 0, 1);
        C.yes(x, "chance of a line of no edits", x.chance(0, 3, 1, 0, 3));
        C.fraction(x, "no edits", 1, 1);
        C.yes(x, "chance with one in vain", x.chance(0, 2, 2, 0, 2));
        C.fraction(x, "the other not done", 1, 4);
        x.lose(0, true);
        C.yes(x, "chance of a lost line", x.chance(0, 3, 0, 1, 4));
        C.fraction(x, "both, lost", 9, 16);
        x.rule(16);
        C.yes(x, "chance if all is misprinted", x.chance(0, 3, 0, 1, 4));
        C.fraction(x, "all misprinted", 0, 1);
        x.rule(0);
        C.yes(x, "chance if nothing is misprinted", x.chance(0, 3, 0, 1, 4));
        C.fraction(x, "nothing misprinted", 1, 1);
        ErrataLand y = asking("odds 1;line 1 delete a delete a delete a delete a;", 0, 0, 0, 0);
        C.yes(y, "chance that one is not done", y.chance(0, 4, 0, 0, 1));
        C.fraction(y, "one of four", 4 * 15 * 15 * 15 / 4, 65536 / 4);
    }

    private static void same() {
        C.about("promise 34");
        ErrataLand x = asking("line 1 delete a delete a delete a;line 2;line 3 for a read b for b read c;"
            + "line 4 delete b for a read b after b insert d for b read a;", 0, 1);
        C.due(x, "same of edits alike", x.same(0, 1, 0), 6, 0);
        C.due(x, "same of no edits", x.same(0, 1, 1), 1, 0);
        C.due(x, "same(0, 1, 2): a, b, c", x.same(0, 1, 2), 1, 0);
        C.due(x, "same(0, 2, 2): each of both", x.same(0, 2, 2), 1, 0);
        C.due(x, "same of nothing", x.same(0, 0, 3), 24, 0);
        x.lose(0, true);
        C.due(x, "same, lost", x.same(0, 1, 0), 6, 0);
    }

    private static void circles() {
        C.about("promise 35");
        ErrataLand x = asking("line 1 for a read c for b read a for c read b;line 2;line 3 for a read b;"
            + "line 4 after a insert a;", 0, 1);
        C.due(x, "circles of two", x.circles(0, 2, 0), 2, 0);
        C.due(x, "circles of what stays", x.circles(0, 2, 1), 1, 0);
        C.due(x, "circles of what is there but once", x.circles(0, 2, 2), 2, 0);
        C.due(x, "circles until there is no room", x.circles(0, 1, 3), 8, 0);
        C.due(x, "circles of nothing", x.circles(0, 0, 3), 1, 0);
        ErrataLand y = asking("line 1 for c read d for b read c for d read b after c insert a;", 3);
        C.due(y, "circles of many", y.circles(0, 1, 0), 16, 0);
        x.lose(0, true);
        C.due(x, "circles, lost", x.circles(0, 2, 0), 2, 0);
    }

    /** Many lines, each held against the rows that right() makes day by day. */
    private static void circlesOfMany() {
        C.about("promise 35, long ones");
        long most = 0;
        for (int edits = 0; edits < 200; edits++) {
            ErrataLand x = asking("line 1;", 0, 1, 2, 3, 0, 1, 2, 3);
            for (int i = 0, dice = edits * 7919 + 13; i < 4; i++, dice = dice * 31 + 7) {
                x.amend(0, (dice & 255) % 3, (dice >> 3 & 255) % 4, (dice >> 5 & 255) % 4, (dice >> 7 & 1) == 1);
            }
            int days = x.circles(0, 8, 0);
            most = Math.max(most, days);
            Checks.fill(x, 1, 0, 1, 2, 3, 0, 1, 2, 3);
            java.util.List<Long> past = new java.util.ArrayList<>();
            int many = 8;
            int due = -1;
            for (int day = 0; day <= 500 && due < 0; day++) {
                long row = Checks.digits(x, 1, many);
                due = past.contains(row) ? day : -1;
                past.add(row);
                many = x.right(1, many, 0, 1);
            }
            C.due("circles " + edits, days, due);
        }
        C.due("some of them longer than 3", most > 3, true);
    }

    private static void joined() {
        C.about("promise 36");
        ErrataLand x = asking("line 1 delete a;line 3 for b read a;line 4;line 6 after c insert b;line 8;line 999;line 998;"
            + "line 10 delete d;");
        C.due(x, "joined(0, 1), a word in another place", x.joined(0, 1), 1, 0);
        C.due(x, "joined(1, 2), one behind the other", x.joined(1, 2), 1, 0);
        C.due(x, "joined(2, 1), the other way round", x.joined(2, 1), 1, 0);
        C.due(x, "joined(1, 3), second and first word", x.joined(1, 3), 1, 0);
        C.due(x, "joined(3, 4), two numbers on", x.joined(3, 4), 0, 0);
        C.due(x, "joined(5, 6)", x.joined(5, 6), 1, 0);
        C.due(x, "joined(0, 3)", x.joined(0, 3), 0, 0);
        C.due(x, "joined(0, 7)", x.joined(0, 7), 0, 0);
        C.no(x, "joined(2, 2)", x.joined(2, 2), 9);
        C.no(x, "joined(8, 8)", x.joined(8, 8), 2);
        C.no(x, "joined(-1, 0)", x.joined(-1, 0), 2);
        x.lose(1, true);
        C.due(x, "joined(0, 1), one lost", x.joined(0, 1), 0, 0);
        C.due(x, "joined(2, 1), one lost", x.joined(2, 1), 0, 0);
    }

    private static final String WAYS = "line 1;line 2;line 3;line 4;line 20 delete a;line 40 delete a;line 21;";

    private static void route() {
        C.about("promise 37");
        ErrataLand x = asking(WAYS);
        C.due(x, "route(0, 3)", x.route(0, 3), 3, 0);
        C.due(x, "route(3, 1)", x.route(3, 1), 2, 0);
        C.due(x, "route(5, 6)", x.route(5, 6), 2, 0);
        C.due(x, "route(2, 2)", x.route(2, 2), 0, 0);
        C.no(x, "route(0, 4)", x.route(0, 4), 8);
        x.lose(1, true);
        C.no(x, "route(0, 2), what is between is lost", x.route(0, 2), 8);
        C.no(x, "route(0, 1), the other lost", x.route(0, 1), 8);
        C.no(x, "route(1, 0), the one lost", x.route(1, 0), 8);
        C.due(x, "route(1, 1), lost", x.route(1, 1), 0, 0);
        C.no(x, "route(7, 7)", x.route(7, 7), 2);
        C.no(x, "route(0, -1)", x.route(0, -1), 2);
    }

    private static void routeFirst() {
        C.about("promise 38");
        ErrataLand x = asking(WAYS);
        C.due(x, "routeFirst(0, 3)", x.routeFirst(0, 3), 1, 0);
        C.due(x, "routeFirst(5, 6)", x.routeFirst(5, 6), 4, 0);
        C.due(x, "routeFirst(4, 6)", x.routeFirst(4, 6), 6, 0);
        C.no(x, "routeFirst(2, 2)", x.routeFirst(2, 2), 9);
        C.no(x, "routeFirst(0, 4)", x.routeFirst(0, 4), 8);
        x.lose(4, true);
        C.no(x, "routeFirst(4, 4), lost", x.routeFirst(4, 4), 9);
        C.no(x, "routeFirst(4, 6), lost", x.routeFirst(4, 6), 8);
        C.no(x, "routeFirst(7, 0)", x.routeFirst(7, 0), 2);
        C.no(x, "routeFirst(0, 7)", x.routeFirst(0, 7), 2);
        ErrataLand y = asking("line 10 delete a delete b;line 20 delete d;line 30 delete b delete d;line 40 delete a delete d;");
        C.due(y, "routeFirst(0, 1), of two the first", y.routeFirst(0, 1), 2, 0);
        y.lose(2, true);
        C.due(y, "routeFirst(0, 1), the other one", y.routeFirst(0, 1), 3, 0);
    }

    private static void reach() {
        C.about("promise 39");
        ErrataLand x = asking(WAYS);
        C.due(x, "reach(0)", x.reach(0), 15, 0);
        C.due(x, "reach(6)", x.reach(6), 112, 0);
        x.lose(2, true);
        C.due(x, "reach(0), one lost", x.reach(0), 3, 0);
        C.due(x, "reach(2), lost", x.reach(2), 4, 0);
        C.no(x, "reach(7)", x.reach(7), 2);
        C.no(x, "reach(-1)", x.reach(-1), 2);
        ErrataLand y = asking("line 8;line 6;line 4;line 2;line 1;line 3;line 5;line 7;");
        C.due(y, "reach(0) of eight in a row", y.reach(0), 255, 0);
        C.due(y, "route(0, 4) of eight in a row", y.route(0, 4), 7, 0);
    }

    private static void omitted() {
        C.about("promise 40");
        ErrataLand x = asking("line 1;line 5;line 6;line 999;");
        C.due(x, "omitted(1, 999)", x.omitted(1, 999), 995, 0);
        C.due(x, "omitted(1, 1)", x.omitted(1, 1), 0, 0);
        C.due(x, "omitted(2, 4)", x.omitted(2, 4), 3, 0);
        C.due(x, "omitted(5, 6)", x.omitted(5, 6), 0, 0);
        x.lose(1, true);
        C.due(x, "omitted(5, 6), one lost", x.omitted(5, 6), 1, 0);
        C.no(x, "omitted(0, 5)", x.omitted(0, 5), 5);
        C.no(x, "omitted(1, 1000)", x.omitted(1, 1000), 5);
        C.no(x, "omitted(6, 5)", x.omitted(6, 5), 5);
        C.no(x, "omitted(1000, 1000)", x.omitted(1000, 1000), 5);
        C.no(x, "omitted(-5, 0)", x.omitted(-5, 0), 5);
    }

    private static void nextOmitted() {
        C.about("promise 41");
        ErrataLand x = asking("line 1;line 5;line 6;line 998;line 999;");
        C.due(x, "nextOmitted(1)", x.nextOmitted(1), 2, 0);
        C.due(x, "nextOmitted(5)", x.nextOmitted(5), 7, 0);
        C.due(x, "nextOmitted(300)", x.nextOmitted(300), 300, 0);
        C.no(x, "nextOmitted(998)", x.nextOmitted(998), 8);
        C.no(x, "nextOmitted(999)", x.nextOmitted(999), 8);
        x.lose(4, true);
        C.due(x, "nextOmitted(998), one lost", x.nextOmitted(998), 999, 0);
        C.no(x, "nextOmitted(0)", x.nextOmitted(0), 5);
        C.no(x, "nextOmitted(1000)", x.nextOmitted(1000), 5);
    }

    /** The STATUS of a call by its name, for rows in trays t of n numbers, and in u of m. */
    private static int statusOf(ErrataLand x, String call, int t, int n, int line, int u, int m) {
        switch (call) {
            case "vain":
                x.vain(t, n, line);
                break;
            case "same":
                x.same(t, n, line);
                break;
            case "circles":
                x.circles(t, n, line);
                break;
            case "makes":
                x.makes(t, n, line, u, m);
                break;
            case "chance":
                x.chance(t, n, line, u, m);
                break;
            default:
                x.second(t, n, u, m);
                break;
        }
        return x.status();
    }

    private static void wrongRows() {
        for (String call : new String[] {"vain", "same", "circles", "makes", "chance", "second"}) {
            C.about("wrong rows for " + call);
            ErrataLand x = asking("line 1 delete a;", 0, 1, 4);
            boolean two = call.equals("makes") || call.equals("chance") || call.equals("second");
            boolean lines = !call.equals("second");
            C.due("good", statusOf(x, call, 0, 2, 0, 3, 2), 0);
            C.due("no such tray", statusOf(x, call, 4, 9, 9, 2, 9), 1);
            C.due("no such tray, -1", statusOf(x, call, -1, 9, 9, 2, 9), 1);
            C.due("no such line", statusOf(x, call, 2, 9, 1, 2, 9), lines ? 2 : 3);
            C.due("no such line, -1", statusOf(x, call, 0, 2, -1, 3, 2), lines ? 2 : 0);
            C.due("missing", statusOf(x, call, 2, 9, 0, 3, 9), 3);
            C.due("too few", statusOf(x, call, 0, 4, 0, 3, 1), 4);
            C.due("no word", statusOf(x, call, 0, 3, 0, 3, 2), 5);
            C.due("n below 0", statusOf(x, call, 0, -1, 0, 3, 2), 5);
            C.due("n of 9", statusOf(x, call, 1, 9, 0, 3, 2), 5);
            if (two) {
                C.due("no such second tray", statusOf(x, call, 2, 9, 9, 4, 9), 1);
                C.due("second missing ahead of too few", statusOf(x, call, 0, 4, 0, 2, 1), 3);
                C.due("second too few ahead of no word", statusOf(x, call, 0, 3, 0, 3, 3), 4);
                C.due("second no word", statusOf(x, call, 0, 2, 0, 1, 1), 5);
                C.due("m below 0", statusOf(x, call, 0, 2, 0, 3, -1), 5);
                C.due("m of 9", statusOf(x, call, 0, 2, 0, 1, 9), 5);
            }
        }
    }
}
