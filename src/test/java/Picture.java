/** All that can be told of an object, as a text; the object is used up by it. */
final class Picture {
    private static final int MOST_CALLS = 512;

    private final ErrataLand x;
    private final StringBuilder told = new StringBuilder();
    private int calls;

    private Picture(ErrataLand x, int calls) {
        this.x = x;
        this.calls = calls;
    }

    /** Of an object that has had so many calls; texts: what the tape has and fault() tells, too. */
    static String of(ErrataLand x, int calls, boolean texts) {
        Picture made = new Picture(x, calls);
        made.land();
        for (int tray = 0; tray < 4; tray++) {
            made.tray(tray);
        }
        made.add("fraction", x.top(), x.bottom());
        made.add("lived", x.lived(0), x.lived(1), x.lived(2), x.lived(3), x.lived(4));
        if (texts) {
            made.add("texts", x.fault(0), x.fault(1), x.feed(0, 0, 0, 0, 0));
        }
        made.add("years", x.live(7));
        made.land();
        for (int mark = 0; mark < 3; mark++) {
            long left = x.back();
            made.add("back", left);
            if (left == ErrataLand.NONE) {
                break;
            }
            made.land();
            made.add("years", x.live(7), x.lived(1));
        }
        if (made.calls > MOST_CALLS) {
            throw new IllegalStateException("more than 512 calls of one object");
        }
        return made.told.toString();
    }

    private void add(String what, long... answers) {
        told.append(' ').append(what);
        for (long answer : answers) {
            calls++;
            told.append(' ').append(answer);
        }
    }

    private void land() {
        for (int what = 0; what < 8; what++) {
            add("many", x.many(what));
        }
        int lines = x.many(1);
        int people = x.many(2);
        calls += 2;
        for (int line = 0; line < lines; line++) {
            int edits = x.line(line, 1);
            add("line", x.line(line, 0), edits, x.line(line, 2), x.line(line, 3), x.line(line, 4));
            for (int edit = 0; edit < edits; edit++) {
                add("edit", x.edit(line, edit, 0), x.edit(line, edit, 1), x.edit(line, edit, 2), x.edit(line, edit, 3));
            }
        }
        for (int person = 0; person < people; person++) {
            int length = x.length(person);
            add("person", x.placeOf(person), length);
            for (int k = 0; k < length; k++) {
                add("says", x.says(person, k));
            }
        }
    }

    private void tray(int tray) {
        told.append(" tray");
        for (int place = 0; place <= 60; place++) {
            long number = x.read(tray, place);
            calls += 2;
            if (x.status() != 0) {
                calls++;
                told.append(" by ").append(x.status());
                return;
            }
            told.append(' ').append(number);
        }
    }
}
