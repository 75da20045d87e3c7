/** A land of corrections: lines of a slip put right what people say, day by day. */
public final class ErrataLand {
    public static final int NONE = -1;

    private static final int FINE = 0;
    private static final int NO_TRAY = 1;
    private static final int NO_SUCH = 2;
    private static final int MISSING = 3;
    private static final int TOO_FEW = 4;
    private static final int BAD_NUMBER = 5;
    private static final int BELOW = 6;
    private static final int TOO_MANY = 7;
    private static final int NOT_THERE = 8;
    private static final int CANNOT = 9;
    private static final int FAULTY = 10;
    private static final int UNLIKE = 11;

    private static final int TRAYS = 4;
    private static final int MARKS = 3;
    private static final int LAST_DAY = 9999;
    private static final int LAST_SEED = 9999;
    private static final int LAST_NUMBER = 999;
    private static final int MOST_DAYS = 99;
    private static final int MOST_SEEDS = 20;
    private static final int MOST_ODDS = 16;
    private static final int FORESEEN = 500;
    private static final int LONGEST_TEXT = 5;

    private final Tray[] trays = new Tray[TRAYS];
    private final Tape tape = new Tape();
    private final Land land = new Land();
    /** What is being read, or tried out, before or without becoming the land. */
    private final Land draft = new Land();
    private final Land[] marks = new Land[MARKS];
    private final Life life = new Life();
    private final int[] lived = new int[Life.TOLD];
    /** Rows for what is worked out in a call; made once, so that no call makes any. */
    private final long[] past = new long[FORESEEN + 1];
    private final int[] fewest = new int[Rows.LONGEST + 1];
    private boolean hasLived;
    private boolean hasRead;
    private int faultKind;
    private int faultPlace;
    private int marked;
    private int status;
    private long top;
    private long bottom = 1;

    public ErrataLand() {
        for (int i = 0; i < trays.length; i++) {
            trays[i] = new Tray();
        }
        for (int i = 0; i < marks.length; i++) {
            marks[i] = new Land();
        }
    }

    public int status() {
        return status;
    }

    public long top() {
        return top;
    }

    public long bottom() {
        return bottom;
    }

    // ---- TRAYS

    public boolean tray(int tray, int sort, int many) {
        Tray made = trayAt(tray);
        if (made == null || sort < 0 || sort > Tray.LAST_SORT) {
            return refused(NO_TRAY);
        }
        if (many > Tray.ROOM) {
            return refused(BAD_NUMBER);
        }
        if (many < 0) {
            return refused(BELOW);
        }
        made.become(sort, many);
        return granted();
    }

    public boolean write(int tray, int place, long v) {
        int why = placeStatus(tray, place);
        Tray into = trayAt(tray);
        if (why != FINE || into == null) {
            return refused(why);
        }
        into.put(place, v);
        return granted();
    }

    public long read(int tray, int place) {
        int why = placeStatus(tray, place);
        Tray from = trayAt(tray);
        if (why != FINE || from == null) {
            return no(why);
        }
        status = FINE;
        return from.get(place);
    }

    public boolean pour(int tray, int i, int to, int j, int many) {
        int why = lesser(trayStatus(tray), trayStatus(to));
        Tray from = trayAt(tray);
        Tray into = trayAt(to);
        if (why != FINE || from == null || into == null) {
            return refused(why);
        }
        if (from.sort != into.sort) {
            return refused(UNLIKE);
        }
        if (many < 0) {
            return refused(BELOW);
        }
        if (!from.hasStretch(i, many) || !into.hasStretch(j, many)) {
            return refused(TOO_FEW);
        }
        System.arraycopy(from.numbers, i, into.numbers, j, many);
        return granted();
    }

    // ---- texts

    public int feed(int a, int b, int c, int d, int e) {
        if (!tape.hasRoomFor(20)) {
            return NONE;
        }
        tape.add(a);
        tape.add(b);
        tape.add(c);
        tape.add(d);
        tape.add(e);
        return tape.fed;
    }

    public int slip(int n) {
        if (n < 0 || n > tape.fed) {
            return no(BAD_NUMBER);
        }
        tape.begin(n);
        boolean taken = SlipReader.reads(tape, draft);
        noteFault();
        if (!taken) {
            return no(FAULTY);
        }
        land.copyOf(draft);
        return yes(land.lineCount);
    }

    public int years(int n) {
        if (n < 0 || n > tape.fed || n > Years.LONGEST) {
            return no(BAD_NUMBER);
        }
        tape.begin(n);
        boolean taken = YearsReader.reads(tape, land, draft.plan);
        noteFault();
        if (!taken) {
            return no(FAULTY);
        }
        land.plan.copyOf(draft.plan);
        return yes(land.plan.steps);
    }

    public int fault(int what) {
        if (!hasRead) {
            return NONE;
        }
        if (what == 0) {
            return faultKind;
        }
        return what == 1 ? faultPlace : NONE;
    }

    public int many(int what) {
        switch (what) {
            case 0:
                return yes(land.words);
            case 1:
                return yes(land.lineCount);
            case 2:
                return yes(land.people);
            case 3:
                return yes(land.odds);
            case 4:
                return yes(land.today);
            case 5:
                return yes(land.lostLines());
            case 6:
                return yes(land.allEdits());
            case 7:
                return yes(land.allWordsSaid());
            default:
                return no(BAD_NUMBER);
        }
    }

    public int line(int line, int what) {
        if (!land.hasLine(line)) {
            return no(NO_SUCH);
        }
        Line asked = land.lineAt(line);
        switch (what) {
            case 0:
                return yes(asked.number);
            case 1:
                return yes(asked.count);
            case 2:
                return yes(asked.lost ? 1 : 0);
            case 3:
                return yes(asked.wordSet());
            case 4:
                return yes(land.peopleAt(line));
            default:
                return no(BAD_NUMBER);
        }
    }

    public int lineOf(int number) {
        if (number < 1 || number > LAST_NUMBER) {
            return no(BAD_NUMBER);
        }
        int line = land.lineNumbered(number);
        return line == NONE ? no(NOT_THERE) : yes(line);
    }

    public int edit(int line, int edit, int what) {
        if (!land.hasEdit(line, edit)) {
            return no(NO_SUCH);
        }
        int asked = land.lineAt(line).editAt(edit);
        switch (what) {
            case 0:
                return yes(Line.kindOf(asked));
            case 1:
                return yes(Line.wordOf(asked));
            case 2:
                return Line.kindOf(asked) == Line.DELETE ? no(NOT_THERE) : yes(Line.otherOf(asked));
            case 3:
                return yes(Line.isPassim(asked) ? 1 : 0);
            default:
                return no(BAD_NUMBER);
        }
    }

    public int placeOf(int person) {
        return land.hasPerson(person) ? yes(land.placeAt(person)) : no(NO_SUCH);
    }

    public int length(int person) {
        return land.hasPerson(person) ? yes(Rows.size(land.rowAt(person))) : no(NO_SUCH);
    }

    public int says(int person, int k) {
        if (!land.hasPerson(person)) {
            return no(NO_SUCH);
        }
        return wordOrNone(land.rowAt(person), k);
    }

    public int copyRow(int person, int tray) {
        Tray into = trayAt(tray);
        if (into == null) {
            return no(NO_TRAY);
        }
        if (!land.hasPerson(person)) {
            return no(NO_SUCH);
        }
        return putRow(land.rowAt(person), tray);
    }

    // ---- what is done

    public int day(int days) {
        if (days < 1 || days > MOST_DAYS) {
            return no(BAD_NUMBER);
        }
        if (land.today + days > LAST_DAY) {
            return no(TOO_MANY);
        }
        int changed = 0;
        for (int person = 0; person < land.people; person++) {
            long row = land.rowIn(person, days);
            if (row != land.rowAt(person)) {
                changed |= 1 << person;
            }
            land.say(person, row);
        }
        land.today += days;
        return yes(changed);
    }

    public int go(int person, int line) {
        if (!land.hasPerson(person) || !land.hasLine(line)) {
            return no(NO_SUCH);
        }
        if (!land.areJoined(land.placeAt(person), line)) {
            return no(CANNOT);
        }
        land.stand(person, line);
        return yes(Integer.bitCount(land.peopleAt(line)));
    }

    public boolean lose(int line, boolean is) {
        if (!land.hasLine(line)) {
            return refused(NO_SUCH);
        }
        Line meant = land.lineAt(line);
        if (meant.lost == is) {
            return refused(CANNOT);
        }
        meant.lost = is;
        return granted();
    }

    public int teach(int person, int tray, int n) {
        int why = rowStatus(tray, n, land.hasPerson(person));
        if (why != FINE) {
            return no(why);
        }
        land.say(person, rowIn(tray, n));
        return yes(n);
    }

    public int amend(int line, int kind, int word, int other, boolean passim) {
        boolean otherCounts = kind != Line.DELETE;
        if (!land.hasLine(line) || !land.hasWord(word) || otherCounts && !land.hasWord(other)) {
            return no(NO_SUCH);
        }
        if (kind < Line.FOR || kind > Line.AFTER || kind == Line.FOR && word == other) {
            return no(BAD_NUMBER);
        }
        Line meant = land.lineAt(line);
        if (meant.count >= Line.MOST_EDITS) {
            return no(TOO_MANY);
        }
        meant.add(Line.pack(kind, word, other, passim));
        return yes(meant.count);
    }

    public int strike(int line, int edit) {
        if (!land.hasEdit(line, edit)) {
            return no(NO_SUCH);
        }
        Line meant = land.lineAt(line);
        meant.drop(edit);
        return yes(meant.count);
    }

    public boolean swap(int line, int edit, int other) {
        if (!land.hasEdit(line, edit) || !land.hasEdit(line, other)) {
            return refused(NO_SUCH);
        }
        if (edit == other) {
            return refused(CANNOT);
        }
        land.lineAt(line).exchange(edit, other);
        return granted();
    }

    public boolean rule(int odds) {
        if (odds < 0 || odds > MOST_ODDS) {
            return refused(BAD_NUMBER);
        }
        land.odds = odds;
        return granted();
    }

    // ---- what a line does

    public int right(int tray, int n, int line, int to) {
        int why = lesser(rowStatus(tray, n, land.hasLine(line)), trayStatus(to));
        if (why != FINE) {
            return no(why);
        }
        return putRow(land.lineAt(line).putRight(rowIn(tray, n)), to);
    }

    public int vain(int tray, int n, int line) {
        int why = rowStatus(tray, n, land.hasLine(line));
        return why == FINE ? yes(land.lineAt(line).vainEdits(rowIn(tray, n))) : no(why);
    }

    public int makes(int tray, int n, int line, int to, int m) {
        boolean told = land.hasLine(line);
        int why = lesser(rowStatus(tray, n, told), rowStatus(to, m, told));
        if (why != FINE) {
            return no(why);
        }
        return yes(land.lineAt(line).putRight(rowIn(tray, n)) == rowIn(to, m) ? 1 : 0);
    }

    public int second(int tray, int n, int to, int m) {
        int why = lesser(rowStatus(tray, n, true), rowStatus(to, m, true));
        return why == FINE ? yes(Rows.distance(rowIn(tray, n), rowIn(to, m), fewest)) : no(why);
    }

    public boolean chance(int tray, int n, int line, int to, int m) {
        boolean told = land.hasLine(line);
        int why = lesser(rowStatus(tray, n, told), rowStatus(to, m, told));
        if (why != FINE) {
            return refused(why);
        }
        Line asked = land.lineAt(line);
        long sixteenths = Search.chanceOf(asked, rowIn(tray, n), rowIn(to, m), land.odds);
        tell(sixteenths, 1L << (4 * asked.count));
        return granted();
    }

    public int same(int tray, int n, int line) {
        int why = rowStatus(tray, n, land.hasLine(line));
        return why == FINE ? yes(Search.ordersAlike(land.lineAt(line), rowIn(tray, n))) : no(why);
    }

    public int circles(int tray, int n, int line) {
        int why = rowStatus(tray, n, land.hasLine(line));
        if (why != FINE) {
            return no(why);
        }
        int days = Search.firstReturn(land.lineAt(line), rowIn(tray, n), past);
        return days == NONE ? no(NOT_THERE) : yes(days);
    }

    // ---- lines

    public int joined(int line, int other) {
        if (!land.hasLine(line) || !land.hasLine(other)) {
            return no(NO_SUCH);
        }
        if (line == other) {
            return no(CANNOT);
        }
        return yes(land.areJoined(line, other) ? 1 : 0);
    }

    public int route(int line, int other) {
        if (!land.hasLine(line) || !land.hasLine(other)) {
            return no(NO_SUCH);
        }
        int goings = land.goings(line, other);
        return goings == NONE ? no(NOT_THERE) : yes(goings);
    }

    public int routeFirst(int line, int other) {
        if (!land.hasLine(line) || !land.hasLine(other)) {
            return no(NO_SUCH);
        }
        int goings = land.goings(line, other);
        if (goings == NONE) {
            return no(NOT_THERE);
        }
        return goings == 0 ? no(CANNOT) : yes(land.firstOfRoute(line, other, goings));
    }

    public int reach(int line) {
        return land.hasLine(line) ? yes(land.reached(line)) : no(NO_SUCH);
    }

    public int omitted(int from, int to) {
        if (from < 1 || to > LAST_NUMBER || to < from) {
            return no(BAD_NUMBER);
        }
        int found = 0;
        for (int number = from; number <= to; number++) {
            if (land.omits(number)) {
                found++;
            }
        }
        return yes(found);
    }

    public int nextOmitted(int from) {
        if (from < 1 || from > LAST_NUMBER) {
            return no(BAD_NUMBER);
        }
        for (int number = from; number <= LAST_NUMBER; number++) {
            if (land.omits(number)) {
                return yes(number);
            }
        }
        return no(NOT_THERE);
    }

    // ---- rows behind it

    public int needs(int line) {
        if (!land.hasLine(line)) {
            return no(NO_SUCH);
        }
        return sizeOrNone(Search.shortestNeeded(land.lineAt(line)));
    }

    public int needsAt(int line, int k) {
        if (!land.hasLine(line)) {
            return no(NO_SUCH);
        }
        return wordOrNone(Search.shortestNeeded(land.lineAt(line)), k);
    }

    public int texts(int tray, int n, int line, int m) {
        int why = rowStatus(tray, n, land.hasLine(line));
        if (why == FINE && (m < 0 || m > LONGEST_TEXT)) {
            why = BAD_NUMBER;
        }
        return why == FINE ? yes(Search.textsOf(land.lineAt(line), rowIn(tray, n), m)) : no(why);
    }

    public int clash(int line, int other) {
        int why = clashStatus(line, other);
        return why == FINE ? sizeOrNone(clashRow(line, other)) : no(why);
    }

    public int clashAt(int line, int other, int k) {
        int why = clashStatus(line, other);
        return why == FINE ? wordOrNone(clashRow(line, other), k) : no(why);
    }

    // ---- games

    public int game(int tray, int n, int line, int x, int y, int turns) {
        int why = gameStatus(tray, n, line, x, y, turns);
        if (why != FINE) {
            return no(why);
        }
        return yes(Search.gameOf(land.lineAt(line), rowIn(tray, n), turns, x, y));
    }

    public int moveOf(int tray, int n, int line, int x, int y, int turns) {
        int why = gameStatus(tray, n, line, x, y, turns);
        if (why == FINE && turns == 0) {
            why = BAD_NUMBER;
        }
        if (why != FINE) {
            return no(why);
        }
        int move = Search.firstMove(land.lineAt(line), rowIn(tray, n), turns, x, y);
        return move == NONE ? no(NOT_THERE) : yes(move);
    }

    // ---- what will be, if only DAYS go by

    public int longIn(int person, int days) {
        int why = futureStatus(person, days);
        return why == FINE ? yes(Rows.size(land.rowIn(person, days))) : no(why);
    }

    public int sayIn(int person, int days, int k) {
        int why = futureStatus(person, days);
        return why == FINE ? wordOrNone(land.rowIn(person, days), k) : no(why);
    }

    public int saysFirst(int person, int word) {
        if (!land.hasPerson(person) || !land.hasWord(word)) {
            return no(NO_SUCH);
        }
        long row = land.rowAt(person);
        for (int days = 0; days <= FORESEEN; days++) {
            if (Rows.find(row, word) != NONE) {
                return yes(days);
            }
            row = land.rowNextDay(person, row);
        }
        return no(NOT_THERE);
    }

    public int silentIn(int person) {
        if (!land.hasPerson(person)) {
            return no(NO_SUCH);
        }
        long row = land.rowAt(person);
        for (int days = 0; days <= FORESEEN; days++) {
            if (Rows.size(row) == 0) {
                return yes(days);
            }
            row = land.rowNextDay(person, row);
        }
        return no(NOT_THERE);
    }

    public int alikeIn(int person, int days) {
        int why = futureStatus(person, days);
        if (why != FINE) {
            return no(why);
        }
        long row = land.rowIn(person, days);
        int alike = 0;
        for (int other = 0; other < land.people; other++) {
            if (other != person && land.rowIn(other, days) == row) {
                alike |= 1 << other;
            }
        }
        return yes(alike);
    }

    // ---- YEARS

    public int live(int seed) {
        if (seed < 0 || seed > LAST_SEED) {
            return no(BAD_NUMBER);
        }
        if (!land.plan.there) {
            return no(NOT_THERE);
        }
        life.goesThrough(land, seed);
        for (int what = 0; what < lived.length; what++) {
            lived[what] = life.told(what);
        }
        hasLived = true;
        return yes(life.steps);
    }

    public int lived(int what) {
        if (what < 0 || what >= lived.length) {
            return no(BAD_NUMBER);
        }
        return hasLived ? yes(lived[what]) : no(NOT_THERE);
    }

    public boolean mean(int seed, int many) {
        if (many < 1 || many > MOST_SEEDS || seed < 0 || seed > LAST_SEED - many + 1) {
            return refused(BAD_NUMBER);
        }
        if (!land.plan.there) {
            return refused(NOT_THERE);
        }
        long said = 0;
        for (int i = 0; i < many; i++) {
            draft.copyOf(land);
            life.goesThrough(draft, seed + i);
            said += draft.allWordsSaid();
        }
        tell(said, many);
        return granted();
    }

    // ---- MARKS

    public int mark() {
        if (marked >= marks.length) {
            return no(TOO_MANY);
        }
        Land kept = marks[marked];
        if (kept != null) {
            kept.copyOf(land);
        }
        marked++;
        return yes(marked);
    }

    public int back() {
        if (marked < 1 || marked > marks.length) {
            return no(NOT_THERE);
        }
        marked--;
        Land kept = marks[marked];
        if (kept != null) {
            land.copyOf(kept);
        }
        return yes(marked);
    }

    // ---- how a call is answered

    private int yes(int answer) {
        status = FINE;
        return answer;
    }

    private int no(int why) {
        status = why;
        return NONE;
    }

    private boolean granted() {
        status = FINE;
        return true;
    }

    private boolean refused(int why) {
        status = why;
        return false;
    }

    private int sizeOrNone(long row) {
        return row == Rows.NO_ROW ? no(NOT_THERE) : yes(Rows.size(row));
    }

    private int wordOrNone(long row, int k) {
        if (row == Rows.NO_ROW || k < 0 || k >= Rows.size(row)) {
            return no(NOT_THERE);
        }
        return yes(Rows.wordAt(row, k));
    }

    private void tell(long over, long under) {
        long common = commonDivisor(over, under);
        if (common > 0) {
            top = over / common;
            bottom = under / common;
        }
    }

    private static long commonDivisor(long a, long b) {
        long greater = a;
        long less = b;
        for (int i = 0; i < 100 && less != 0; i++) {
            long rest = greater % less;
            greater = less;
            less = rest;
        }
        return greater;
    }

    private void noteFault() {
        hasRead = true;
        faultKind = tape.fault;
        faultPlace = tape.faultPlace;
        tape.fed = 0;
    }

    // ---- what STATUS a call has

    /** STATUS is decided in the order of its numbers, so that of two parts of a call the lesser one is due. */
    private static int lesser(int one, int other) {
        if (one == FINE || other == FINE) {
            return Math.max(one, other);
        }
        return Math.min(one, other);
    }

    private int trayStatus(int tray) {
        Tray meant = trayAt(tray);
        if (meant == null) {
            return NO_TRAY;
        }
        return meant.there ? FINE : MISSING;
    }

    private int placeStatus(int tray, int place) {
        Tray meant = trayAt(tray);
        if (meant == null) {
            return NO_TRAY;
        }
        if (!meant.there) {
            return MISSING;
        }
        return meant.hasStretch(place, 1) ? FINE : TOO_FEW;
    }

    /** For a call that is told a ROW: allTold is whether the WORDS, LINES and PEOPLE that it names are there. */
    private int rowStatus(int tray, int n, boolean allTold) {
        Tray meant = trayAt(tray);
        if (meant == null) {
            return NO_TRAY;
        }
        if (!allTold) {
            return NO_SUCH;
        }
        if (!meant.there) {
            return MISSING;
        }
        if (meant.size < n) {
            return TOO_FEW;
        }
        return meant.holdsRow(n, land.words) ? FINE : BAD_NUMBER;
    }

    private int clashStatus(int line, int other) {
        if (!land.hasLine(line) || !land.hasLine(other)) {
            return NO_SUCH;
        }
        return line == other ? CANNOT : FINE;
    }

    private int gameStatus(int tray, int n, int line, int x, int y, int turns) {
        int why = rowStatus(tray, n, land.hasLine(line) && land.hasWord(x) && land.hasWord(y));
        if (why == FINE && (x == y || turns < 0 || turns > Search.MOST_TURNS)) {
            return BAD_NUMBER;
        }
        return why;
    }

    private int futureStatus(int person, int days) {
        if (!land.hasPerson(person)) {
            return NO_SUCH;
        }
        return days < 0 || days > FORESEEN ? BAD_NUMBER : FINE;
    }

    // ---- rows in trays

    private Tray trayAt(int tray) {
        return tray >= 0 && tray < trays.length ? trays[tray] : null;
    }

    private long rowIn(int tray, int n) {
        Tray from = trayAt(tray);
        return from == null ? Rows.EMPTY : from.firstRow(n);
    }

    private int putRow(long row, int tray) {
        int why = trayStatus(tray);
        Tray into = trayAt(tray);
        if (why != FINE || into == null) {
            return no(why);
        }
        if (into.size < Rows.size(row)) {
            return no(TOO_FEW);
        }
        into.putFirst(row);
        return yes(Rows.size(row));
    }

    private long clashRow(int line, int other) {
        return Search.shortestClash(land.lineAt(line), land.lineAt(other), land.allWords());
    }

    /** A row of numbers of one sort, or none. */
    private static final class Tray {
        private static final int ROOM = 60;
        private static final int LAST_SORT = 3;

        private final long[] numbers = new long[ROOM];
        private boolean there;
        private int sort;
        private int size;

        void become(int newSort, int many) {
            there = true;
            sort = newSort;
            size = Math.min(many, ROOM);
            for (int i = 0; i < numbers.length; i++) {
                numbers[i] = 0;
            }
        }

        boolean hasStretch(int from, int many) {
            return from >= 0 && many >= 0 && many <= size && from <= size - many;
        }

        long get(int place) {
            return place >= 0 && place < numbers.length ? numbers[place] : 0;
        }

        void put(int place, long v) {
            if (place >= 0 && place < numbers.length) {
                numbers[place] = cut(v);
            }
        }

        private long cut(long v) {
            switch (sort) {
                case 0:
                    return (byte) v;
                case 1:
                    return (short) v;
                case 2:
                    return (int) v;
                default:
                    return v;
            }
        }

        boolean holdsRow(int n, int words) {
            if (n < 0 || n > Rows.LONGEST || n > size) {
                return false;
            }
            for (int k = 0; k < n; k++) {
                if (get(k) < 0 || get(k) >= words) {
                    return false;
                }
            }
            return true;
        }

        long firstRow(int n) {
            long row = Rows.EMPTY;
            for (int k = 0; k < n && k < Rows.LONGEST; k++) {
                row = Rows.with(row, k, (int) get(k));
            }
            return row;
        }

        void putFirst(long row) {
            for (int k = 0; k < Rows.size(row); k++) {
                put(k, Rows.wordAt(row, k));
            }
        }
    }

    /**
     * A ROW is one long, so that no call makes objects for it: the k-th WORD stands in the four bits from 4k on,
     * the number of WORDS from bit 32 on, and what is behind the last WORD is 0. So alike ROWS are equal longs.
     */
    private static final class Rows {
        private static final long NO_ROW = -1;
        private static final long EMPTY = 0;
        private static final int LONGEST = 8;
        private static final long ALL_WORDS = 0xFFFFFFFFL;

        static int size(long row) {
            return (int) (row >>> 32);
        }

        static int wordAt(long row, int k) {
            return (int) (row >>> (4 * k)) & 15;
        }

        /** The k-th WORD becomes another one; behind the last one, a new last one. */
        static long with(long row, int k, int word) {
            long words = row & ~(15L << (4 * k)) & ALL_WORDS | (long) word << (4 * k);
            long size = row >>> 32;
            return (size > k ? size : k + 1) << 32 | words;
        }

        static long without(long row, int k) {
            long ahead = (1L << (4 * k)) - 1;
            long words = row & ALL_WORDS;
            return (row >>> 32) - 1 << 32 | words & ahead | words >>> 4 & ~ahead;
        }

        /** A WORD comes to place k, what stood from there on goes one place on. */
        static long inserted(long row, int k, int word) {
            long ahead = (1L << (4 * k)) - 1;
            long words = row & ALL_WORDS;
            long behind = (words & ~ahead) << 4;
            return (row >>> 32) + 1 << 32 | words & ahead | (long) word << (4 * k) | behind;
        }

        static int find(long row, int word) {
            int size = (int) (row >>> 32);
            for (int k = 0; k < size; k++) {
                if ((row >>> (4 * k) & 15) == word) {
                    return k;
                }
            }
            return NONE;
        }

        static int howOften(long row, int word) {
            int found = 0;
            for (int k = 0; k < size(row); k++) {
                if (wordAt(row, k) == word) {
                    found++;
                }
            }
            return found;
        }

        static int wordSet(long row) {
            int set = 0;
            for (int k = 0; k < size(row); k++) {
                set |= 1 << wordAt(row, k);
            }
            return set;
        }

        /**
         * The fewest EDITS from a ROW to another one, by the table of those for their beginnings, of which fewest takes
         * a line at once.
         */
        static int distance(long from, long to, int[] fewest) {
            int width = Math.min(size(to), LONGEST);
            if (width < 0 || width >= fewest.length) {
                return NONE;
            }
            for (int j = 0; j <= width && j < fewest.length; j++) {
                fewest[j] = j;
            }
            for (int i = 1; i <= size(from); i++) {
                int diagonal = fewest[0];
                fewest[0] = i;
                for (int j = 1; j <= width && j < fewest.length; j++) {
                    int above = fewest[j];
                    int kept = diagonal + (wordAt(from, i - 1) == wordAt(to, j - 1) ? 0 : 1);
                    fewest[j] = Math.min(kept, Math.min(above, fewest[j - 1]) + 1);
                    diagonal = above;
                }
            }
            return fewest[width];
        }

        /** The first ROW of so many WORDS out of a set. */
        static long firstOf(int size, int set) {
            long row = EMPTY;
            for (int k = 0; k < size && k < LONGEST; k++) {
                row = with(row, k, Integer.numberOfTrailingZeros(set));
            }
            return row;
        }

        /** How many ROWS of so many WORDS out of a set there are. */
        static int howMany(int size, int set) {
            int rows = 1;
            for (int k = 0; k < size; k++) {
                rows *= Integer.bitCount(set);
            }
            return rows;
        }

        /** The ROW that is next by its WORDS, all out of a set; behind the last one comes the first. */
        static long next(long row, int set) {
            long made = row;
            for (int k = size(row) - 1; k >= 0; k--) {
                int greater = set & (-2 << wordAt(row, k));
                if (greater != 0) {
                    return with(made, k, Integer.numberOfTrailingZeros(greater));
                }
                made = with(made, k, Integer.numberOfTrailingZeros(set));
            }
            return made;
        }
    }

    /** A LINE and what it does. An EDIT is one int: its kind, from bit 2 on PASSIM, from 4 and 8 on its WORDS. */
    private static final class Line {
        private static final int FOR = 0;
        private static final int DELETE = 1;
        private static final int AFTER = 2;
        private static final int MOST_EDITS = 4;

        private final int[] edits = new int[MOST_EDITS];
        private int number;
        private int count;
        private boolean lost;

        static int pack(int kind, int word, int other, boolean passim) {
            int marked = passim && kind != AFTER ? 4 : 0;
            return kind | marked | word << 4 | (kind == DELETE ? 0 : other << 8);
        }

        static int kindOf(int edit) {
            return edit & 3;
        }

        static boolean isPassim(int edit) {
            return (edit & 4) != 0;
        }

        static int wordOf(int edit) {
            return edit >> 4 & 15;
        }

        static int otherOf(int edit) {
            return edit >> 8 & 15;
        }

        /** What an EDIT makes of a ROW, NO_ROW if it is in VAIN. */
        static long done(long row, int edit) {
            int word = wordOf(edit);
            int place = Rows.find(row, word);
            if (place == NONE) {
                return Rows.NO_ROW;
            }
            if (kindOf(edit) == AFTER) {
                return Rows.size(row) < Rows.LONGEST ? Rows.inserted(row, place + 1, otherOf(edit)) : Rows.NO_ROW;
            }
            long made = row;
            for (int k = Rows.size(row) - 1; k >= place; k--) {
                if (k == place || isPassim(edit) && Rows.wordAt(row, k) == word) {
                    made = kindOf(edit) == FOR ? Rows.with(made, k, otherOf(edit)) : Rows.without(made, k);
                }
            }
            return made;
        }

        static long doneOrNot(long row, int edit) {
            long made = done(row, edit);
            return made == Rows.NO_ROW ? row : made;
        }

        void become(int newNumber) {
            number = newNumber;
            count = 0;
            lost = false;
        }

        void copyOf(Line other) {
            number = other.number;
            count = other.count;
            lost = other.lost;
            for (int i = 0; i < edits.length; i++) {
                edits[i] = other.editAt(i);
            }
        }

        int editAt(int i) {
            return i >= 0 && i < edits.length ? edits[i] : 0;
        }

        void add(int edit) {
            if (count >= 0 && count < edits.length) {
                edits[count] = edit;
                count++;
            }
        }

        void drop(int gone) {
            for (int i = Math.max(gone, 0); i + 1 < count && i + 1 < edits.length; i++) {
                edits[i] = edits[i + 1];
            }
            count--;
        }

        void exchange(int i, int j) {
            if (i >= 0 && i < edits.length && j >= 0 && j < edits.length) {
                int kept = edits[i];
                edits[i] = edits[j];
                edits[j] = kept;
            }
        }

        /** The WORDS that its EDITS look for. */
        int soughtSet() {
            int set = 0;
            for (int i = 0; i < count; i++) {
                set |= 1 << wordOf(editAt(i));
            }
            return set;
        }

        /** All WORDS in its EDITS. */
        int wordSet() {
            int set = 0;
            for (int i = 0; i < count; i++) {
                set |= 1 << wordOf(editAt(i));
                if (kindOf(editAt(i)) != DELETE) {
                    set |= 1 << otherOf(editAt(i));
                }
            }
            return set;
        }

        long putRight(long row) {
            long made = row;
            for (int i = 0; i < count; i++) {
                long next = done(made, editAt(i));
                if (next != Rows.NO_ROW) {
                    made = next;
                }
            }
            return made;
        }

        /** The same, but NO_ROW if an EDIT is in VAIN. */
        long putRightByAll(long row) {
            long made = row;
            for (int i = 0; i < count && made != Rows.NO_ROW; i++) {
                made = done(made, editAt(i));
            }
            return made;
        }

        int vainEdits(long row) {
            int set = 0;
            long made = row;
            for (int i = 0; i < count; i++) {
                long next = done(made, editAt(i));
                if (next == Rows.NO_ROW) {
                    set |= 1 << i;
                } else {
                    made = next;
                }
            }
            return set;
        }
    }

    /** What has to be sought among ROWS, orders or moves. */
    private static final class Search {
        private static final int MOST_TURNS = 4;
        private static final int LONGEST_NEED = 5;
        private static final int LONGEST_CLASH = 3;

        /** How many of 16 to the number of EDITS equally likely cases make the wanted ROW. */
        static long chanceOf(Line line, long row, long wanted, int odds) {
            long sum = 0;
            for (int doing = 0; doing < 1 << line.count; doing++) {
                long cases = 1;
                long made = row;
                for (int i = 0; i < line.count; i++) {
                    boolean does = (doing >> i & 1) != 0;
                    cases *= does ? 16 - odds : odds;
                    made = does ? Line.doneOrNot(made, line.editAt(i)) : made;
                }
                sum += made == wanted ? cases : 0;
            }
            return sum;
        }

        static int ordersAlike(Line line, long row) {
            return ordersTo(line, row, line.putRight(row), 0, 0);
        }

        private static int ordersTo(Line line, long row, long wanted, int used, int depth) {
            if (depth >= line.count || depth >= Line.MOST_EDITS) {
                return row == wanted ? 1 : 0;
            }
            int found = 0;
            for (int i = 0; i < line.count; i++) {
                if ((used >> i & 1) == 0) {
                    long made = Line.doneOrNot(row, line.editAt(i));
                    found += ordersTo(line, made, wanted, used | 1 << i, depth + 1);
                }
            }
            return found;
        }

        /** On which DAY a ROW is first as on a DAY ahead; past takes the ROWS of the DAYS. */
        static int firstReturn(Line line, long row, long[] past) {
            long made = row;
            for (int days = 0; days < past.length; days++) {
                for (int ahead = 0; ahead < days; ahead++) {
                    if (past[ahead] == made) {
                        return days;
                    }
                }
                past[days] = made;
                made = line.putRight(made);
            }
            return NONE;
        }

        /**
         * NEEDS. A WORD that no EDIT looks for is never touched nor counted from, so that a ROW does without it:
         * the shortest one is of WORDS alone that some EDIT looks for.
         */
        static long shortestNeeded(Line line) {
            int set = line.soughtSet();
            for (int size = 0; size <= LONGEST_NEED; size++) {
                int rows = Rows.howMany(size, set);
                long row = Rows.firstOf(size, set);
                for (int i = 0; i < rows; i++) {
                    if (line.putRightByAll(row) != Rows.NO_ROW) {
                        return row;
                    }
                    row = Rows.next(row, set);
                }
            }
            return Rows.NO_ROW;
        }

        /** TEXTS. A WORD that no EDIT looks for stays, so that it can stand there only if the wanted ROW has it. */
        static int textsOf(Line line, long wanted, int size) {
            int set = line.soughtSet() | Rows.wordSet(wanted);
            int rows = Rows.howMany(size, set);
            long row = Rows.firstOf(size, set);
            int found = 0;
            for (int i = 0; i < rows; i++) {
                if (line.putRightByAll(row) == wanted) {
                    found++;
                }
                row = Rows.next(row, set);
            }
            return found;
        }

        static long shortestClash(Line one, Line other, int words) {
            for (int size = 0; size <= LONGEST_CLASH; size++) {
                int rows = Rows.howMany(size, words);
                long row = Rows.firstOf(size, words);
                for (int i = 0; i < rows; i++) {
                    if (other.putRight(one.putRight(row)) != one.putRight(other.putRight(row))) {
                        return row;
                    }
                    row = Rows.next(row, words);
                }
            }
            return Rows.NO_ROW;
        }

        static int gameOf(Line line, long row, int turns, int x, int y) {
            return worth(line, row, 0, 0, turns, x, y);
        }

        /** What a GAME is worth from a turn on, when the EDITS of a set are done. */
        private static int worth(Line line, long row, int used, int turn, int turns, int x, int y) {
            if (turn >= turns || turn >= MOST_TURNS) {
                return Rows.howOften(row, x) - Rows.howOften(row, y);
            }
            boolean isFirst = turn % 2 == 0;
            int best = worth(line, row, used, turn + 1, turns, x, y);
            for (int i = 0; i < line.count; i++) {
                if ((used >> i & 1) == 0) {
                    long made = Line.doneOrNot(row, line.editAt(i));
                    int value = worth(line, made, used | 1 << i, turn + 1, turns, x, y);
                    best = isFirst ? Math.max(best, value) : Math.min(best, value);
                }
            }
            return best;
        }

        static int firstMove(Line line, long row, int turns, int x, int y) {
            int best = gameOf(line, row, turns, x, y);
            for (int i = 0; i < line.count; i++) {
                long made = Line.doneOrNot(row, line.editAt(i));
                if (worth(line, made, 1 << i, 1, turns, x, y) == best) {
                    return i;
                }
            }
            return NONE;
        }
    }

    /** The SLIP with all that became of it, and the YEARS: what a MARK keeps. */
    private static final class Land {
        private static final int MOST_WORDS = 8;
        private static final int MOST_LINES = 8;
        private static final int MOST_PEOPLE = 6;
        private static final int USUAL_ODDS = 2;

        private final long[] wordNames = new long[MOST_WORDS];
        private final Line[] lines = new Line[MOST_LINES];
        private final Line noLine = new Line();
        private final long[] personNames = new long[MOST_PEOPLE];
        private final int[] places = new int[MOST_PEOPLE];
        private final long[] rows = new long[MOST_PEOPLE];
        private final Years plan = new Years();
        private int odds = USUAL_ODDS;
        private int words;
        private int lineCount;
        private int people;
        private int today;

        Land() {
            for (int i = 0; i < lines.length; i++) {
                lines[i] = new Line();
            }
        }

        void clear() {
            odds = USUAL_ODDS;
            words = 0;
            lineCount = 0;
            people = 0;
            today = 0;
            plan.clear();
        }

        void copyOf(Land other) {
            odds = other.odds;
            words = other.words;
            lineCount = other.lineCount;
            people = other.people;
            today = other.today;
            for (int i = 0; i < lines.length; i++) {
                lineAt(i).copyOf(other.lineAt(i));
            }
            for (int i = 0; i < wordNames.length && i < other.wordNames.length; i++) {
                wordNames[i] = other.wordNames[i];
            }
            for (int i = 0; i < personNames.length && i < other.personNames.length; i++) {
                personNames[i] = other.personNames[i];
                stand(i, other.placeAt(i));
                say(i, other.rowAt(i));
            }
            plan.copyOf(other.plan);
        }

        boolean hasWord(int word) {
            return word >= 0 && word < words;
        }

        boolean hasLine(int line) {
            return line >= 0 && line < lineCount;
        }

        boolean hasPerson(int person) {
            return person >= 0 && person < people;
        }

        boolean hasEdit(int line, int edit) {
            return hasLine(line) && edit >= 0 && edit < lineAt(line).count;
        }

        Line lineAt(int line) {
            Line found = line >= 0 && line < lines.length ? lines[line] : null;
            return found == null ? noLine : found;
        }

        int placeAt(int person) {
            return person >= 0 && person < places.length ? places[person] : 0;
        }

        long rowAt(int person) {
            return person >= 0 && person < rows.length ? rows[person] : Rows.EMPTY;
        }

        void stand(int person, int line) {
            if (person >= 0 && person < places.length) {
                places[person] = line;
            }
        }

        void say(int person, long row) {
            if (person >= 0 && person < rows.length) {
                rows[person] = row;
            }
        }

        void addWord(long name) {
            if (words >= 0 && words < wordNames.length) {
                wordNames[words] = name;
                words++;
            }
        }

        void addLine(int number) {
            if (lineCount < lines.length) {
                lineAt(lineCount).become(number);
                lineCount++;
            }
        }

        void addPerson(long name, int line) {
            if (people >= 0 && people < personNames.length) {
                personNames[people] = name;
                stand(people, line);
                say(people, Rows.EMPTY);
                people++;
            }
        }

        int wordNamed(long name) {
            for (int word = 0; word < words && word < wordNames.length; word++) {
                if (wordNames[word] == name) {
                    return word;
                }
            }
            return NONE;
        }

        int personNamed(long name) {
            for (int person = 0; person < people && person < personNames.length; person++) {
                if (personNames[person] == name) {
                    return person;
                }
            }
            return NONE;
        }

        int lineNumbered(int number) {
            for (int line = 0; line < lineCount; line++) {
                if (lineAt(line).number == number) {
                    return line;
                }
            }
            return NONE;
        }

        boolean omits(int number) {
            int line = lineNumbered(number);
            return line == NONE || lineAt(line).lost;
        }

        int allWords() {
            return (1 << words) - 1;
        }

        int lostLines() {
            int set = 0;
            for (int line = 0; line < lineCount; line++) {
                if (lineAt(line).lost) {
                    set |= 1 << line;
                }
            }
            return set;
        }

        int allEdits() {
            int sum = 0;
            for (int line = 0; line < lineCount; line++) {
                sum += lineAt(line).count;
            }
            return sum;
        }

        int allWordsSaid() {
            int sum = 0;
            for (int person = 0; person < people; person++) {
                sum += Rows.size(rowAt(person));
            }
            return sum;
        }

        int peopleAt(int line) {
            int set = 0;
            for (int person = 0; person < people; person++) {
                if (placeAt(person) == line) {
                    set |= 1 << person;
                }
            }
            return set;
        }

        /** Whether they are JOINED; a LINE is never JOINED with itself. */
        boolean areJoined(int line, int other) {
            Line one = lineAt(line);
            Line two = lineAt(other);
            if (line == other || one.lost || two.lost) {
                return false;
            }
            return (one.wordSet() & two.wordSet()) != 0 || Math.abs(one.number - two.number) == 1;
        }

        /** A set of LINES, and those that are JOINED with one of them. */
        private int withNeighbours(int set) {
            int wider = set;
            for (int line = 0; line < lineCount; line++) {
                for (int other = 0; other < lineCount; other++) {
                    if ((set >> line & 1) != 0 && areJoined(line, other)) {
                        wider |= 1 << other;
                    }
                }
            }
            return wider;
        }

        int reached(int line) {
            int set = 1 << line;
            for (int i = 0; i < lineCount; i++) {
                set = withNeighbours(set);
            }
            return set;
        }

        /** ROUTE, NONE if there is no way. */
        int goings(int from, int to) {
            int set = 1 << from;
            for (int goings = 0; goings < lineCount; goings++) {
                if ((set >> to & 1) != 0) {
                    return goings;
                }
                set = withNeighbours(set);
            }
            return NONE;
        }

        int firstOfRoute(int from, int to, int goings) {
            for (int line = 0; line < lineCount; line++) {
                if (areJoined(from, line) && goings(line, to) == goings - 1) {
                    return line;
                }
            }
            return NONE;
        }

        /** What a PERSON who says a ROW says a DAY on. */
        long rowNextDay(int person, long row) {
            Line line = lineAt(placeAt(person));
            return line.lost ? row : line.putRight(row);
        }

        /** What a PERSON says in so many DAYS; a ROW that a DAY leaves as it is stays so. */
        long rowIn(int person, int days) {
            long row = rowAt(person);
            for (int i = 0; i < days; i++) {
                long next = rowNextDay(person, row);
                if (next == row) {
                    return row;
                }
                row = next;
            }
            return row;
        }

        /** Puts right what all say, as by a DAY: how many say something else then. */
        int putAllRight() {
            int changed = 0;
            for (int person = 0; person < people; person++) {
                Line line = lineAt(placeAt(person));
                long row = rowAt(person);
                long next = line.lost ? row : line.putRight(row);
                if (next != row) {
                    changed++;
                    say(person, next);
                }
            }
            return changed;
        }
    }

    /** YEARS as operations in a row: STEPS and ends. A when is told by the WORD OF THE TEXT of its TEST. */
    private static final class Years {
        private static final int LONGEST = 300;
        private static final int MOST_STEPS = 30;
        private static final int DEEPEST = 3;
        private static final int ROOM = 2 * MOST_STEPS;

        private final int[] operations = new int[ROOM];
        private final int[] partners = new int[ROOM];
        /** While they are read: where what is not ended yet began. */
        private final int[] open = new int[DEEPEST];
        private boolean there;
        private int count;
        private int steps;
        private int depth;

        static int kindOf(int operation) {
            return operation & 255;
        }

        static int firstOf(int operation) {
            return operation >> 8 & 255;
        }

        static int secondOf(int operation) {
            return operation >> 16 & 255;
        }

        static int thirdOf(int operation) {
            return operation >> 24 & 127;
        }

        void clear() {
            there = false;
            count = 0;
            steps = 0;
            depth = 0;
        }

        void copyOf(Years other) {
            there = other.there;
            count = other.count;
            steps = other.steps;
            depth = other.depth;
            for (int i = 0; i < operations.length && i < partners.length; i++) {
                operations[i] = other.operationAt(i);
                partners[i] = other.partnerOf(i);
            }
        }

        int operationAt(int i) {
            return i >= 0 && i < operations.length ? operations[i] : 0;
        }

        /** For what has an end, its end; for an end, what it ends. */
        int partnerOf(int i) {
            return i >= 0 && i < partners.length ? partners[i] : 0;
        }

        boolean addStep(int kind, int first, int second, int third) {
            add(kind | first << 8 | second << 16 | third << 24);
            steps++;
            return true;
        }

        boolean begin(int kind, int first, int second, int third) {
            if (depth >= 0 && depth < open.length) {
                open[depth] = count;
                depth++;
            }
            return addStep(kind, first, second, third);
        }

        boolean end() {
            if (depth > 0 && depth <= open.length) {
                depth--;
                int begun = open[depth];
                if (begun >= 0 && begun < partners.length && count < partners.length) {
                    partners[begun] = count;
                    partners[count] = begun;
                }
            }
            add(Tape.END_WORD);
            return true;
        }

        private void add(int operation) {
            if (count >= 0 && count < operations.length) {
                operations[count] = operation;
                count++;
            }
        }
    }

    /** The bytes that were fed, and the TOKENS of a TEXT of the first of them, one after another. */
    private static final class Tape {
        private static final int ROOM = 900;
        private static final int LONGEST_NAME = 8;
        private static final int LONGEST_NUMBER = 4;

        private static final int ENDED = 0;
        private static final int NO_TOKEN = 1;
        private static final int LETTERS = 2;
        private static final int NUMBER = 3;
        private static final int SIGN = 4;

        /** In the order of the numbers below, a blank behind each. */
        private static final String KEYWORDS =
            "odds word line for read passim delete after insert person at says day go lose find any when lost long has loop end stop ";
        private static final int ODDS = 0;
        private static final int WORD = 1;
        private static final int LINE = 2;
        private static final int FOR = 3;
        private static final int READ = 4;
        private static final int PASSIM = 5;
        private static final int DELETE = 6;
        private static final int AFTER = 7;
        private static final int INSERT = 8;
        private static final int PERSON = 9;
        private static final int AT = 10;
        private static final int SAYS = 11;
        private static final int DAY = 12;
        private static final int GO = 13;
        private static final int LOSE = 14;
        private static final int FIND = 15;
        private static final int ANY = 16;
        private static final int WHEN = 17;
        private static final int LOST = 18;
        private static final int LONG = 19;
        private static final int HAS = 20;
        private static final int LOOP = 21;
        private static final int END_WORD = 22;
        private static final int STOP = 23;
        private static final int KEYWORD_COUNT = 24;

        private final byte[] bytes = new byte[ROOM];
        private final long[] keywords = new long[KEYWORD_COUNT];
        private int fed;
        private int length;
        private int from;
        private int to;
        private int kind;
        private int keyword;
        private long name;
        private int value;
        private int fault;
        private int faultPlace;

        Tape() {
            int found = 0;
            for (int i = 0; i < KEYWORDS.length() && found < keywords.length; i++) {
                char c = KEYWORDS.charAt(i);
                if (c == ' ') {
                    found++;
                } else {
                    keywords[found] = longer(keywords[found], c);
                }
            }
        }

        /** A name of up to 8 letters as one long, five bits a letter. */
        private static long longer(long name, int letter) {
            return name << 5 | letter - 'a' + 1;
        }

        boolean hasRoomFor(int many) {
            return fed + many <= bytes.length;
        }

        void add(int fourBytes) {
            for (int shift = 24; shift >= 0; shift -= 8) {
                if (fed >= 0 && fed < bytes.length) {
                    bytes[fed] = (byte) (fourBytes >> shift);
                    fed++;
                }
            }
        }

        private int byteAt(int i) {
            return i >= 0 && i < bytes.length && i < length ? bytes[i] & 255 : 0;
        }

        /** Begins a TEXT of the first n bytes, with its first TOKEN. */
        void begin(int n) {
            length = n;
            to = 0;
            fault = 0;
            faultPlace = NONE;
            advance();
        }

        void advance() {
            from = to;
            while (from < length && isBlank(byteAt(from))) {
                from++;
            }
            keyword = NONE;
            name = 0;
            value = 0;
            int c = byteAt(from);
            if (from >= length) {
                kind = ENDED;
                to = length;
            } else if (isLetter(c)) {
                takeLetters();
            } else if (isDigit(c)) {
                takeNumber();
            } else {
                kind = c == ';' || c == '<' || c == '>' || c == '=' ? SIGN : NO_TOKEN;
                value = c;
                to = from + 1;
            }
        }

        private void takeLetters() {
            kind = LETTERS;
            long spelt = 0;
            to = from;
            while (to < length && isLetter(byteAt(to))) {
                spelt = longer(spelt, byteAt(to));
                to++;
            }
            if (to - from <= LONGEST_NAME) {
                name = spelt;
                keyword = keywordSpelt(spelt);
            }
        }

        private int keywordSpelt(long spelt) {
            for (int i = 0; i < keywords.length; i++) {
                if (keywords[i] == spelt) {
                    return i;
                }
            }
            return NONE;
        }

        private void takeNumber() {
            to = from;
            while (to < length && isDigit(byteAt(to))) {
                value = to - from < LONGEST_NUMBER ? value * 10 + byteAt(to) - '0' : 0;
                to++;
            }
            kind = to - from <= LONGEST_NUMBER ? NUMBER : NO_TOKEN;
        }

        private static boolean isBlank(int c) {
            return c == 10 || c == 32;
        }

        private static boolean isLetter(int c) {
            return c >= 'a' && c <= 'z';
        }

        private static boolean isDigit(int c) {
            return c >= '0' && c <= '9';
        }

        boolean isEnded() {
            return kind == ENDED;
        }

        boolean isKeyword(int wanted) {
            return keyword == wanted;
        }

        boolean isLetters() {
            return kind == LETTERS;
        }

        boolean isName() {
            return kind == LETTERS && name != 0 && keyword == NONE;
        }

        /** A FAULT at the TOKEN that is read now. */
        boolean failed(int why) {
            fault = why;
            faultPlace = from;
            return false;
        }

        /** The TOKEN can't stand there, or is none. */
        boolean misplaced() {
            return failed(kind == NO_TOKEN ? 1 : 2);
        }

        boolean takesKeyword(int wanted) {
            if (keyword != wanted) {
                return misplaced();
            }
            advance();
            return true;
        }

        boolean takesSemicolon() {
            if (kind != SIGN || value != ';') {
                return misplaced();
            }
            advance();
            return true;
        }

        /** A NUMBER of a stretch, or NONE behind a FAULT. */
        int takeNumberIn(int least, int greatest) {
            if (kind != NUMBER) {
                misplaced();
                return NONE;
            }
            if (value < least || value > greatest) {
                failed(4);
                return NONE;
            }
            int taken = value;
            advance();
            return taken;
        }

        /** The LINE of a number, or NONE behind a FAULT. */
        int takeLine(Land land) {
            if (kind != NUMBER) {
                misplaced();
                return NONE;
            }
            int line = land.lineNumbered(value);
            if (line == NONE) {
                failed(3);
                return NONE;
            }
            advance();
            return line;
        }

        /** The WORD of a NAME, or NONE behind a FAULT; the TOKEN stays, as more may be wrong with it. */
        int seeWord(Land land) {
            if (!isName()) {
                misplaced();
                return NONE;
            }
            int word = land.wordNamed(name);
            if (word == NONE) {
                failed(3);
            }
            return word;
        }

        int takeWord(Land land) {
            int word = seeWord(land);
            if (word != NONE) {
                advance();
            }
            return word;
        }

        int takePerson(Land land) {
            if (!isName()) {
                misplaced();
                return NONE;
            }
            int person = land.personNamed(name);
            if (person == NONE) {
                failed(3);
                return NONE;
            }
            advance();
            return person;
        }

        /** A NAME that nothing has yet, or 0 behind a FAULT. */
        long takeNewName(Land land) {
            if (!isName()) {
                misplaced();
                return 0;
            }
            if (land.wordNamed(name) != NONE || land.personNamed(name) != NONE) {
                failed(3);
                return 0;
            }
            long taken = name;
            advance();
            return taken;
        }
    }

    /** Reads a SLIP; each of its functions is false behind a FAULT. */
    private static final class SlipReader {
        static boolean reads(Tape tape, Land into) {
            into.clear();
            boolean oddsTold = false;
            for (int parts = 0; parts <= Tape.ROOM && !tape.isEnded(); parts++) {
                boolean read;
                switch (tape.keyword) {
                    case Tape.ODDS:
                        read = oddsTold ? tape.failed(5) : readsOdds(tape, into);
                        oddsTold = true;
                        break;
                    case Tape.WORD:
                        read = readsWord(tape, into);
                        break;
                    case Tape.LINE:
                        read = readsLine(tape, into);
                        break;
                    case Tape.PERSON:
                        read = readsPerson(tape, into);
                        break;
                    default:
                        read = tape.misplaced();
                        break;
                }
                if (!read || !tape.takesSemicolon()) {
                    return false;
                }
            }
            return true;
        }

        private static boolean readsOdds(Tape tape, Land into) {
            tape.advance();
            int odds = tape.takeNumberIn(0, MOST_ODDS);
            if (odds == NONE) {
                return false;
            }
            into.odds = odds;
            return true;
        }

        private static boolean readsWord(Tape tape, Land into) {
            if (into.words >= Land.MOST_WORDS) {
                return tape.failed(6);
            }
            tape.advance();
            long name = tape.takeNewName(into);
            if (name == 0) {
                return false;
            }
            into.addWord(name);
            return true;
        }

        private static boolean readsLine(Tape tape, Land into) {
            if (into.lineCount >= Land.MOST_LINES) {
                return tape.failed(6);
            }
            tape.advance();
            if (tape.kind == Tape.NUMBER && into.lineNumbered(tape.value) != NONE) {
                return tape.failed(5);
            }
            int number = tape.takeNumberIn(1, LAST_NUMBER);
            if (number == NONE) {
                return false;
            }
            into.addLine(number);
            Line made = into.lineAt(into.lineCount - 1);
            for (int edits = 0; edits <= Line.MOST_EDITS && beginsEdit(tape); edits++) {
                if (edits == Line.MOST_EDITS) {
                    return tape.failed(6);
                }
                if (!readsEdit(tape, into, made)) {
                    return false;
                }
            }
            return true;
        }

        private static boolean beginsEdit(Tape tape) {
            return tape.isKeyword(Tape.FOR) || tape.isKeyword(Tape.DELETE) || tape.isKeyword(Tape.AFTER);
        }

        private static boolean readsEdit(Tape tape, Land land, Line into) {
            int kind = kindTold(tape.keyword);
            tape.advance();
            int word = tape.takeWord(land);
            if (word == NONE) {
                return false;
            }
            int other = 0;
            if (kind != Line.DELETE) {
                if (!tape.takesKeyword(kind == Line.FOR ? Tape.READ : Tape.INSERT)) {
                    return false;
                }
                if (kind == Line.FOR && tape.seeWord(land) == word) {
                    return tape.failed(5);
                }
                other = tape.takeWord(land);
                if (other == NONE) {
                    return false;
                }
            }
            boolean passim = kind != Line.AFTER && tape.isKeyword(Tape.PASSIM);
            if (passim) {
                tape.advance();
            }
            into.add(Line.pack(kind, word, other, passim));
            return true;
        }

        private static int kindTold(int keyword) {
            if (keyword == Tape.FOR) {
                return Line.FOR;
            }
            return keyword == Tape.DELETE ? Line.DELETE : Line.AFTER;
        }

        private static boolean readsPerson(Tape tape, Land into) {
            if (into.people >= Land.MOST_PEOPLE) {
                return tape.failed(6);
            }
            tape.advance();
            long name = tape.takeNewName(into);
            if (name == 0 || !tape.takesKeyword(Tape.AT)) {
                return false;
            }
            int line = tape.takeLine(into);
            if (line == NONE) {
                return false;
            }
            into.addPerson(name, line);
            if (!tape.isKeyword(Tape.SAYS)) {
                return true;
            }
            tape.advance();
            return readsSaid(tape, into, into.people - 1);
        }

        private static boolean readsSaid(Tape tape, Land into, int person) {
            long row = Rows.EMPTY;
            for (int said = 0; said <= Rows.LONGEST && (said == 0 || tape.isLetters()); said++) {
                int word = tape.seeWord(into);
                if (word == NONE) {
                    return false;
                }
                if (said >= Rows.LONGEST) {
                    return tape.failed(6);
                }
                row = Rows.with(row, said, word);
                tape.advance();
            }
            into.say(person, row);
            return true;
        }
    }

    /** Reads YEARS; each of its functions is false behind a FAULT. */
    private static final class YearsReader {
        static boolean reads(Tape tape, Land land, Years into) {
            into.clear();
            for (int i = 0; i <= Years.LONGEST && !(tape.isEnded() && into.depth == 0); i++) {
                boolean read;
                if (tape.isKeyword(Tape.END_WORD) && into.depth > 0) {
                    tape.advance();
                    read = into.end();
                } else if (!beginsStep(tape.keyword)) {
                    read = tape.misplaced();
                } else if (into.steps >= Years.MOST_STEPS) {
                    read = tape.failed(6);
                } else if (beginsBlock(tape.keyword) && into.depth >= Years.DEEPEST) {
                    read = tape.failed(7);
                } else {
                    read = readsStep(tape, land, into);
                }
                if (!read || !tape.takesSemicolon()) {
                    return false;
                }
            }
            into.there = true;
            return true;
        }

        private static boolean beginsBlock(int keyword) {
            return keyword == Tape.WHEN || keyword == Tape.LOOP;
        }

        private static boolean beginsStep(int keyword) {
            switch (keyword) {
                case Tape.DAY:
                case Tape.GO:
                case Tape.LOSE:
                case Tape.FIND:
                case Tape.ANY:
                case Tape.WHEN:
                case Tape.LOOP:
                case Tape.STOP:
                    return true;
                default:
                    return false;
            }
        }

        private static boolean readsStep(Tape tape, Land land, Years into) {
            int keyword = tape.keyword;
            tape.advance();
            int told;
            switch (keyword) {
                case Tape.DAY:
                    told = tape.takeNumberIn(1, 20);
                    return told != NONE && into.addStep(keyword, told, 0, 0);
                case Tape.GO:
                    return readsGo(tape, land, into);
                case Tape.LOSE:
                case Tape.FIND:
                    told = tape.takeLine(land);
                    return told != NONE && into.addStep(keyword, told, 0, 0);
                case Tape.WHEN:
                    return readsTest(tape, land, into);
                case Tape.LOOP:
                    told = tape.takeNumberIn(1, 99);
                    return told != NONE && into.begin(keyword, told, 0, 0);
                default:
                    return into.addStep(keyword, 0, 0, 0);
            }
        }

        private static boolean readsGo(Tape tape, Land land, Years into) {
            int person = tape.takePerson(land);
            if (person == NONE) {
                return false;
            }
            int line = tape.takeLine(land);
            return line != NONE && into.addStep(Tape.GO, person, line, 0);
        }

        private static boolean readsTest(Tape tape, Land land, Years into) {
            int test = tape.keyword;
            if (test != Tape.LOST && test != Tape.HAS && test != Tape.LONG) {
                return tape.misplaced();
            }
            tape.advance();
            if (test == Tape.LOST) {
                int line = tape.takeLine(land);
                return line != NONE && into.begin(test, line, 0, 0);
            }
            int person = tape.takePerson(land);
            if (person == NONE) {
                return false;
            }
            if (test == Tape.HAS) {
                int word = tape.takeWord(land);
                return word != NONE && into.begin(test, person, word, 0);
            }
            int sign = tape.value;
            if (tape.kind != Tape.SIGN || sign == ';') {
                return tape.misplaced();
            }
            tape.advance();
            int bound = tape.takeNumberIn(0, Rows.LONGEST);
            return bound != NONE && into.begin(test, person, sign, bound);
        }
    }

    /** LIVED: does YEARS to a LAND and counts what comes of it. */
    private static final class Life {
        private static final int TOLD = 5;
        private static final int MOST_STEPS = 300;
        /** Far above the STEPS and the ends between them, of which there are most in a loop of nothing. */
        private static final int MOST_TURNS = 1000000;

        /** For each loop that is being done, how often it is still due. */
        private final int[] rounds = new int[Years.ROOM];
        private int seed;
        private int steps;
        private int missed;
        private int days;
        private int goings;
        private int changes;
        private int left;

        int told(int what) {
            switch (what) {
                case 0:
                    return missed;
                case 1:
                    return days;
                case 2:
                    return goings;
                case 3:
                    return changes;
                default:
                    return left;
            }
        }

        private void begin(int newSeed) {
            seed = newSeed;
            steps = 0;
            missed = 0;
            days = 0;
            goings = 0;
            changes = 0;
            left = 0;
        }

        void goesThrough(Land land, int newSeed) {
            begin(newSeed);
            Years plan = land.plan;
            int at = 0;
            for (int turn = 0; turn < MOST_TURNS && at < plan.count; turn++) {
                int kind = Years.kindOf(plan.operationAt(at));
                if (kind == Tape.END_WORD) {
                    at = behindEnd(plan, at);
                } else if (steps >= MOST_STEPS) {
                    left = 1;
                    return;
                } else {
                    steps++;
                    if (kind == Tape.STOP) {
                        return;
                    }
                    at = behindStep(land, at);
                }
            }
        }

        private int behindEnd(Years plan, int at) {
            int begun = plan.partnerOf(at);
            boolean isLoop = Years.kindOf(plan.operationAt(begun)) == Tape.LOOP;
            if (isLoop && begun >= 0 && begun < rounds.length && rounds[begun] > 1) {
                rounds[begun]--;
                return begun + 1;
            }
            return at + 1;
        }

        /** Does a STEP, counts it if it is MISSED: the place of what comes next. */
        private int behindStep(Land land, int at) {
            int step = land.plan.operationAt(at);
            int first = Years.firstOf(step);
            boolean done = true;
            switch (Years.kindOf(step)) {
                case Tape.DAY:
                    done = daysGo(land, first);
                    break;
                case Tape.GO:
                    done = personGoes(land, first, Years.secondOf(step));
                    break;
                case Tape.LOSE:
                    done = lineBecomes(land, first, true);
                    break;
                case Tape.FIND:
                    done = lineBecomes(land, first, false);
                    break;
                case Tape.ANY:
                    done = anyGoes(land);
                    break;
                case Tape.LOOP:
                    if (at >= 0 && at < rounds.length) {
                        rounds[at] = first;
                    }
                    break;
                default:
                    return holds(land, step) ? at + 1 : land.plan.partnerOf(at) + 1;
            }
            missed += done ? 0 : 1;
            return at + 1;
        }

        private static boolean holds(Land land, int step) {
            int kind = Years.kindOf(step);
            int about = Years.firstOf(step);
            if (kind == Tape.LOST) {
                return land.lineAt(about).lost;
            }
            if (kind == Tape.HAS) {
                return Rows.find(land.rowAt(about), Years.secondOf(step)) != NONE;
            }
            int compared = Integer.compare(Rows.size(land.rowAt(about)), Years.thirdOf(step));
            switch (Years.secondOf(step)) {
                case '<':
                    return compared < 0;
                case '>':
                    return compared > 0;
                default:
                    return compared == 0;
            }
        }

        private boolean daysGo(Land land, int many) {
            if (land.today + many > LAST_DAY) {
                return false;
            }
            land.today += many;
            days += many;
            for (int i = 0; i < many; i++) {
                int changed = land.putAllRight();
                changes += changed;
                // What a day leaves as it is, the days behind it leave, too.
                if (changed == 0) {
                    return true;
                }
            }
            return true;
        }

        private boolean personGoes(Land land, int person, int line) {
            if (!land.areJoined(land.placeAt(person), line)) {
                return false;
            }
            land.stand(person, line);
            goings++;
            return true;
        }

        private boolean lineBecomes(Land land, int line, boolean lost) {
            Line meant = land.lineAt(line);
            if (meant.lost == lost) {
                return false;
            }
            meant.lost = lost;
            return true;
        }

        private boolean anyGoes(Land land) {
            if (land.people == 0) {
                return false;
            }
            int person = draw(land.people);
            int line = draw(land.lineCount);
            return personGoes(land, person, line);
        }

        private int draw(int many) {
            seed = (seed * 2971 + 10771) % 65536;
            return many > 0 ? seed / 8 % many : 0;
        }
    }
}
