/** Promises 1 to 8: a new object, STATUS, the FRACTION, TRAYS. */
public final class TraysTest {
    private static final Checks C = new Checks();

    public static void main(String[] args) {
        aNewObject();
        status();
        fraction();
        tray();
        writeAndRead();
        pour();
        pourOrder();
        C.end();
    }

    private static void aNewObject() {
        C.about("promise 1");
        ErrataLand x = new ErrataLand();
        C.due("NONE", ErrataLand.NONE, -1);
        C.due("status()", x.status(), 0);
        C.fraction(x, "a new object's fraction", 0, 1);
        C.due("fault(0)", x.fault(0), -1);
        C.due("fault(1)", x.fault(1), -1);
        int[] many = {0, 0, 0, 2, 0, 0, 0, 0};
        for (int what = 0; what < many.length; what++) {
            C.due(x, "many(" + what + ")", x.many(what), many[what], 0);
        }
        for (int tray = 0; tray < 4; tray++) {
            C.no(x, "read(" + tray + ", 0)", (int) x.read(tray, 0), 3);
        }
        C.no(x, "live(0)", x.live(0), 8);
        C.no(x, "mean(0, 1)", x.mean(0, 1), 8);
        C.no(x, "lived(0)", x.lived(0), 8);
        C.no(x, "back()", x.back(), 8);
        C.no(x, "slip(1)", x.slip(1), 5);
        C.no(x, "line(0, 0)", x.line(0, 0), 2);
        C.no(x, "placeOf(0)", x.placeOf(0), 2);
        C.due(x, "slip(0)", x.slip(0), 0, 0);
    }

    private static void status() {
        C.about("promise 2");
        ErrataLand x = new ErrataLand();
        x.many(9);
        C.due("status() of many(9)", x.status(), 5);
        C.due("status() again", x.status(), 5);
        x.top();
        x.bottom();
        x.fault(0);
        x.fault(7);
        x.feed(0, 0, 0, 0, 0);
        C.due("status() behind calls that have none", x.status(), 5);
        x.many(0);
        C.due("status() of many(0)", x.status(), 0);
    }

    private static void fraction() {
        C.about("promises 3 and 4");
        ErrataLand x = Checks.land("odds 4; word a; word b; line 1 for a read b;");
        Checks.fill(x, 0, 0);
        Checks.fill(x, 1, 1);
        C.yes(x, "chance", x.chance(0, 1, 0, 1, 1));
        C.fraction(x, "12 of 16", 3, 4);
        C.no(x, "chance of no such line", x.chance(0, 1, 1, 1, 1), 2);
        C.fraction(x, "12 of 16 still", 3, 4);
        C.yes(x, "chance", x.chance(1, 1, 0, 0, 1));
        C.fraction(x, "0 of 16", 0, 1);
    }

    private static void tray() {
        C.about("promise 5");
        ErrataLand x = new ErrataLand();
        C.yes(x, "tray(0, 3, 60)", x.tray(0, 3, 60));
        C.due(x, "read(0, 59)", x.read(0, 59), 0, 0);
        C.no(x, "read(0, 60)", x.read(0, 60) == -1 ? -1 : 0, 4);
        C.yes(x, "tray(1, 0, 0)", x.tray(1, 0, 0));
        C.no(x, "read(1, 0)", (int) x.read(1, 0), 4);
        C.no(x, "tray(-1, 0, 1)", x.tray(-1, 0, 1), 1);
        C.no(x, "tray(4, 0, 1)", x.tray(4, 0, 1), 1);
        C.no(x, "tray(0, -1, 1)", x.tray(0, -1, 1), 1);
        C.no(x, "tray(0, 4, 1)", x.tray(0, 4, 1), 1);
        C.no(x, "tray(4, 0, 61)", x.tray(4, 0, 61), 1);
        C.no(x, "tray(0, 0, 61)", x.tray(0, 0, 61), 5);
        C.no(x, "tray(0, 0, -1)", x.tray(0, 0, -1), 6);
        C.no(x, "tray(0, 0, least)", x.tray(0, 0, Integer.MIN_VALUE), 6);
        C.due(x, "read(0, 59), which is still there", x.read(0, 59), 0, 0);
        C.yes(x, "write(0, 0, 7)", x.write(0, 0, 7));
        C.yes(x, "tray(0, 1, 2)", x.tray(0, 1, 2));
        C.due(x, "read(0, 0) of the new tray", x.read(0, 0), 0, 0);
        C.no(x, "read(0, 2) of the new tray", (int) x.read(0, 2), 4);
    }

    private static void writeAndRead() {
        C.about("promises 6 and 7");
        ErrataLand x = new ErrataLand();
        long v = 0x123456789ABCDEF0L;
        long[] cut = {(byte) 0xF0, (short) 0xDEF0, 0x9ABCDEF0, v};
        for (int sort = 0; sort < 4; sort++) {
            x.tray(sort, sort, 2);
            C.yes(x, "write", x.write(sort, 1, v));
            C.due(x, "read of sort " + sort, x.read(sort, 1), cut[sort], 0);
            C.yes(x, "write", x.write(sort, 1, -1));
            C.due(x, "read of -1", x.read(sort, 1), -1, 0);
            C.due(x, "read of the other place", x.read(sort, 0), 0, 0);
        }
        C.yes(x, "write(0, 0, 128)", x.write(0, 0, 128));
        C.due(x, "read(0, 0)", x.read(0, 0), -128, 0);
        C.yes(x, "write(3, 0, least)", x.write(3, 0, Long.MIN_VALUE));
        C.due(x, "read(3, 0)", x.read(3, 0), Long.MIN_VALUE, 0);
        C.no(x, "write(4, 0, 1)", x.write(4, 0, 1), 1);
        C.no(x, "read(-1, 0)", (int) x.read(-1, 0), 1);
        C.no(x, "write(0, 2, 1)", x.write(0, 2, 1), 4);
        C.no(x, "write(0, -1, 1)", x.write(0, -1, 1), 4);
        C.no(x, "read(0, 2)", (int) x.read(0, 2), 4);
        C.no(x, "read(0, greatest)", (int) x.read(0, Integer.MAX_VALUE), 4);
        ErrataLand y = new ErrataLand();
        C.no(y, "write(2, 99, 1)", y.write(2, 99, 1), 3);
        C.no(y, "read(2, -9)", (int) y.read(2, -9), 3);
    }

    private static void pour() {
        C.about("promise 8");
        ErrataLand x = new ErrataLand();
        Checks.fill(x, 0, 1, 2, 3, 4, 5);
        Checks.fill(x, 1, 9, 9, 9);
        C.yes(x, "pour(0, 3, 1, 1, 2)", x.pour(0, 3, 1, 1, 2));
        C.due("tray 1", Checks.digits(x, 1, 3), 1945);
        C.yes(x, "pour onto itself, on", x.pour(0, 0, 0, 1, 4));
        C.due("tray 0", Checks.digits(x, 0, 5), 111234);
        C.yes(x, "pour onto itself, back", x.pour(0, 2, 0, 0, 3));
        C.due("tray 0", Checks.digits(x, 0, 5), 123434);
        C.yes(x, "pour none", x.pour(0, 1, 1, 1, 0));
        C.yes(x, "pour all", x.pour(1, 0, 0, 2, 3));
        C.due("tray 0", Checks.digits(x, 0, 5), 123945);
        C.no(x, "pour from -1", x.pour(0, -1, 1, 0, 1), 4);
        C.no(x, "pour to -1", x.pour(0, 0, 1, -1, 1), 4);
        C.no(x, "pour too far from", x.pour(0, 4, 1, 0, 2), 4);
        C.no(x, "pour too far to", x.pour(0, 0, 1, 2, 2), 4);
        C.no(x, "pour of the greatest", x.pour(0, 1, 1, 1, Integer.MAX_VALUE), 4);
        C.no(x, "pour from the greatest", x.pour(0, Integer.MAX_VALUE, 1, 1, 1), 4);
        C.no(x, "pour below 0", x.pour(0, 0, 1, 0, -1), 6);
        C.due("tray 0, as it was", Checks.digits(x, 0, 5), 123945);
    }

    private static void pourOrder() {
        C.about("promise 8, the order");
        ErrataLand x = new ErrataLand();
        x.tray(0, 1, 2);
        x.tray(1, 2, 2);
        C.no(x, "no such tray ahead of a missing one", x.pour(3, -1, 4, -1, -1), 1);
        C.no(x, "no such tray", x.pour(-1, 0, 0, 0, 1), 1);
        C.no(x, "a missing tray ahead of unlike sorts", x.pour(3, -1, 0, -1, -1), 3);
        C.no(x, "a missing tray", x.pour(0, 0, 2, 0, 1), 3);
        C.no(x, "unlike sorts ahead of below 0", x.pour(0, -1, 1, -1, -1), 11);
        C.no(x, "below 0 ahead of the place", x.pour(0, -1, 0, 9, -1), 6);
        C.no(x, "the place", x.pour(0, 0, 0, 1, 2), 4);
    }
}
