/** Promises 49 to 53: what will be, if only DAYS go by. */
public final class FutureTest {
    private static final Checks C = new Checks();

    public static void main(String[] args) {
        longIn();
        sayIn();
        saysFirst();
        silentIn();
        alikeIn();
        farAhead();
        C.end();
    }

    private static ErrataLand land() {
        return Checks.land("word a;word b;word c;word d;line 1 after a insert b delete c;line 5 for a read b for b read c for c read d;"
            + "line 9;person p at 1 says a c c;person q at 5 says a;person r at 9 says d;person s at 9;");
    }

    private static void longIn() {
        C.about("promise 49");
        ErrataLand x = land();
        int[] due = {3, 3, 3, 4, 5, 6, 7, 8, 8};
        for (int days = 0; days < due.length; days++) {
            C.due(x, "longIn(0, " + days + ")", x.longIn(0, days), due[days], 0);
        }
        C.due(x, "longIn(0, 500)", x.longIn(0, 500), 8, 0);
        C.due(x, "longIn(3, 1)", x.longIn(3, 1), 0, 0);
        C.due("many(4), no day is gone", x.many(4), 0);
        C.due("length(0), nothing is changed", x.length(0), 3);
        x.lose(0, true);
        C.due(x, "longIn(0, 9), lost", x.longIn(0, 9), 3, 0);
        C.no(x, "longIn(0, 501)", x.longIn(0, 501), 5);
        C.no(x, "longIn(0, -1)", x.longIn(0, -1), 5);
        C.no(x, "longIn(4, -1)", x.longIn(4, -1), 2);
        C.no(x, "longIn(-1, 0)", x.longIn(-1, 0), 2);
    }

    private static void sayIn() {
        C.about("promise 50");
        ErrataLand x = land();
        C.due(x, "sayIn(1, 0, 0)", x.sayIn(1, 0, 0), 0, 0);
        C.due(x, "sayIn(1, 1, 0): all three edits in a day", x.sayIn(1, 1, 0), 3, 0);
        C.due(x, "sayIn(1, 500, 0)", x.sayIn(1, 500, 0), 3, 0);
        C.due(x, "sayIn(0, 1, 0)", x.sayIn(0, 1, 0), 0, 0);
        C.due(x, "sayIn(0, 1, 1)", x.sayIn(0, 1, 1), 1, 0);
        C.due(x, "sayIn(0, 1, 2)", x.sayIn(0, 1, 2), 2, 0);
        C.no(x, "sayIn(0, 1, 3)", x.sayIn(0, 1, 3), 8);
        C.no(x, "sayIn(0, 1, -1)", x.sayIn(0, 1, -1), 8);
        C.no(x, "sayIn(3, 1, 0)", x.sayIn(3, 1, 0), 8);
        C.no(x, "sayIn(3, 501, 0)", x.sayIn(3, 501, 0), 5);
        C.no(x, "sayIn(3, -1, 0)", x.sayIn(3, -1, 0), 5);
        C.no(x, "sayIn(4, -1, 0)", x.sayIn(4, -1, 0), 2);
    }

    private static void saysFirst() {
        C.about("promise 51");
        ErrataLand x = Checks.land("word a;word b;word c;word d;line 1 for c read d for b read c for a read b;line 5;"
            + "person p at 1 says a;person q at 5 says d a;");
        for (int word = 0; word < 4; word++) {
            C.due(x, "saysFirst(0, " + word + ")", x.saysFirst(0, word), word, 0);
        }
        C.due(x, "saysFirst(1, 0)", x.saysFirst(1, 0), 0, 0);
        C.no(x, "saysFirst(1, 1)", x.saysFirst(1, 1), 8);
        C.no(x, "saysFirst(2, 0)", x.saysFirst(2, 0), 2);
        C.no(x, "saysFirst(-1, 0)", x.saysFirst(-1, 0), 2);
        C.no(x, "saysFirst(0, 4)", x.saysFirst(0, 4), 2);
        C.no(x, "saysFirst(0, -1)", x.saysFirst(0, -1), 2);
        x.lose(0, true);
        C.no(x, "saysFirst(0, 1), lost", x.saysFirst(0, 1), 8);
    }

    private static void silentIn() {
        C.about("promise 52");
        ErrataLand x = Checks.land("word a;word b;line 1 delete a;line 5 delete a passim;line 9;"
            + "person p at 1 says a a a a a a a a;person q at 5 says a a;person r at 5 says a b;person s at 9;");
        C.due(x, "silentIn(0)", x.silentIn(0), 8, 0);
        C.due(x, "silentIn(1)", x.silentIn(1), 1, 0);
        C.no(x, "silentIn(2)", x.silentIn(2), 8);
        C.due(x, "silentIn(3)", x.silentIn(3), 0, 0);
        x.day(3);
        C.due(x, "silentIn(0), three days on", x.silentIn(0), 5, 0);
        x.lose(0, true);
        C.no(x, "silentIn(0), lost", x.silentIn(0), 8);
        C.no(x, "silentIn(4)", x.silentIn(4), 2);
        C.no(x, "silentIn(-1)", x.silentIn(-1), 2);
    }

    private static void alikeIn() {
        C.about("promise 53");
        ErrataLand x = Checks.land("word a;word b;line 1 for a read b;line 5;line 9 delete a;"
            + "person p at 1 says a a;person q at 5 says b b;person r at 1 says a b;person s at 5 says a a;"
            + "person t at 5;person u at 9 says a a;");
        C.due(x, "alikeIn(0, 0)", x.alikeIn(0, 0), 40, 0);
        C.due(x, "alikeIn(0, 1)", x.alikeIn(0, 1), 0, 0);
        C.due(x, "alikeIn(0, 2)", x.alikeIn(0, 2), 6, 0);
        C.due(x, "alikeIn(1, 1)", x.alikeIn(1, 1), 4, 0);
        C.due(x, "alikeIn(4, 1)", x.alikeIn(4, 1), 0, 0);
        C.due(x, "alikeIn(4, 500)", x.alikeIn(4, 500), 32, 0);
        C.no(x, "alikeIn(0, 501)", x.alikeIn(0, 501), 5);
        C.no(x, "alikeIn(0, -1)", x.alikeIn(0, -1), 5);
        C.no(x, "alikeIn(6, 501)", x.alikeIn(6, 501), 2);
        C.no(x, "alikeIn(-1, 0)", x.alikeIn(-1, 0), 2);
    }

    private static void farAhead() {
        C.about("promises 49 to 53, the last days");
        ErrataLand x = Checks.land("word a;line 1 delete a;person p at 1 says a a;");
        for (int i = 0; i < 101; i++) {
            x.day(99);
        }
        Checks.fill(x, 0, 0, 0);
        x.teach(0, 0, 2);
        C.due("many(4)", x.many(4), 9999);
        C.due(x, "longIn(0, 1), beyond the last day", x.longIn(0, 1), 1, 0);
        C.due(x, "silentIn(0), beyond the last day", x.silentIn(0), 2, 0);
    }
}
