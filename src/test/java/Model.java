import java.util.ArrayList;
import java.util.Arrays;
import java.util.HashMap;
import java.util.HashSet;
import java.util.List;
import java.util.Map;
import java.util.Set;

/** The document once more, written for being plain and not for being fast: RandomTest holds the class against it. */
final class Model {
    static final class Fault extends RuntimeException {
        final int kind;
        final int place;

        Fault(int kind, int place) {
            this.kind = kind;
            this.place = place;
        }
    }

    static final class No extends RuntimeException {
        final int status;

        No(int status) {
            this.status = status;
        }
    }

    static final class Edit {
        int kind;
        int word;
        int other;
        boolean passim;

        Edit(int kind, int word, int other, boolean passim) {
            this.kind = kind;
            this.word = word;
            this.other = other;
            this.passim = passim;
        }
    }

    static final class Line {
        int number;
        boolean lost;
        List<Edit> edits = new ArrayList<>();

        Line copy() {
            Line made = new Line();
            made.number = number;
            made.lost = lost;
            made.edits = new ArrayList<>(edits);
            return made;
        }
    }

    static final class Person {
        String name;
        int at;
        List<Integer> row = new ArrayList<>();

        Person copy() {
            Person made = new Person();
            made.name = name;
            made.at = at;
            made.row = new ArrayList<>(row);
            return made;
        }
    }

    static final class Step {
        String what;
        String test;
        int a;
        int b;
        int c;
        List<Step> inside = new ArrayList<>();
    }

    static final class World {
        int odds = 2;
        int day;
        List<String> words = new ArrayList<>();
        List<Line> lines = new ArrayList<>();
        List<Person> people = new ArrayList<>();
        List<Step> years;
        int steps;

        World copy() {
            World made = new World();
            made.odds = odds;
            made.day = day;
            made.words = new ArrayList<>(words);
            for (Line line : lines) {
                made.lines.add(line.copy());
            }
            for (Person person : people) {
                made.people.add(person.copy());
            }
            made.years = years;
            made.steps = steps;
            return made;
        }
    }

    static final class Token {
        char kind;
        String text;
        int place;
    }

    World world = new World();
    final long[][] trays = new long[4][];
    final int[] sorts = new int[4];
    final List<Integer> tape = new ArrayList<>();
    final List<World> marks = new ArrayList<>();
    int status;
    long top;
    long bottom = 1;
    int faultKind = -1;
    int faultPlace = -1;
    int[] lived;

    // ---- what tests must hold, in the order of STATUS

    private void ask(boolean good, int otherwise) {
        if (!good) {
            throw new No(otherwise);
        }
    }

    private boolean isTray(int tray) {
        return tray >= 0 && tray <= 3;
    }

    private boolean in(int i, List<?> list) {
        return i >= 0 && i < list.size();
    }

    private boolean in(int v, int least, int most) {
        return v >= least && v <= most;
    }

    private boolean isRow(int tray, int n) {
        if (!in(n, 0, 8)) {
            return false;
        }
        for (int k = 0; k < n; k++) {
            if (trays[tray][k] < 0 || trays[tray][k] >= world.words.size()) {
                return false;
            }
        }
        return true;
    }

    private void askRow(int tray, int n, boolean things) {
        ask(isTray(tray), 1);
        ask(things, 2);
        ask(trays[tray] != null, 3);
        ask(trays[tray].length >= n, 4);
        ask(isRow(tray, n), 5);
    }

    private void askRows(int tray, int n, int to, int m, boolean things) {
        ask(isTray(tray) && isTray(to), 1);
        ask(things, 2);
        ask(trays[tray] != null && trays[to] != null, 3);
        ask(trays[tray].length >= n && trays[to].length >= m, 4);
        ask(isRow(tray, n) && isRow(to, m), 5);
    }

    private List<Integer> row(int tray, int n) {
        List<Integer> made = new ArrayList<>();
        for (int k = 0; k < n; k++) {
            made.add((int) trays[tray][k]);
        }
        return made;
    }

    // ---- rows

    /** Null if the EDIT is in VAIN. */
    static List<Integer> edited(List<Integer> row, Edit edit) {
        if (!row.contains(edit.word) || edit.kind == 2 && row.size() == 8) {
            return null;
        }
        List<Integer> made = new ArrayList<>();
        boolean met = false;
        for (int word : row) {
            boolean touched = word == edit.word && (!met || edit.passim);
            met |= word == edit.word;
            if (!touched) {
                made.add(word);
            } else if (edit.kind == 0) {
                made.add(edit.other);
            } else if (edit.kind == 2) {
                made.add(word);
                made.add(edit.other);
            }
        }
        return made;
    }

    static List<Integer> after(List<Integer> row, List<Edit> edits) {
        List<Integer> made = row;
        for (Edit edit : edits) {
            List<Integer> next = edited(made, edit);
            made = next == null ? made : next;
        }
        return made;
    }

    static int vainSet(List<Integer> row, List<Edit> edits) {
        List<Integer> made = row;
        int set = 0;
        for (int i = 0; i < edits.size(); i++) {
            List<Integer> next = edited(made, edits.get(i));
            if (next == null) {
                set |= 1 << i;
            } else {
                made = next;
            }
        }
        return set;
    }

    /** All ROWS of m WORDS, in the order of their WORDS. */
    private List<List<Integer>> rowsOf(int m) {
        List<List<Integer>> made = new ArrayList<>();
        made.add(new ArrayList<>());
        for (int i = 0; i < m; i++) {
            List<List<Integer>> longer = new ArrayList<>();
            for (List<Integer> row : made) {
                for (int word = 0; word < world.words.size(); word++) {
                    List<Integer> next = new ArrayList<>(row);
                    next.add(word);
                    longer.add(next);
                }
            }
            made = longer;
        }
        return made;
    }

    private boolean joinedLines(int a, int b) {
        Line one = world.lines.get(a);
        Line two = world.lines.get(b);
        if (a == b || one.lost || two.lost) {
            return false;
        }
        Set<Integer> shared = wordsIn(one);
        shared.retainAll(wordsIn(two));
        return !shared.isEmpty() || one.number - two.number == 1 || two.number - one.number == 1;
    }

    private static Set<Integer> wordsIn(Line line) {
        Set<Integer> made = new HashSet<>();
        for (Edit edit : line.edits) {
            made.add(edit.word);
            if (edit.kind != 1) {
                made.add(edit.other);
            }
        }
        return made;
    }

    /** For each LINE how many goings it is away, -1 if there is no way. */
    private int[] away(int from) {
        int[] made = new int[world.lines.size()];
        Arrays.fill(made, -1);
        List<Integer> queue = new ArrayList<>();
        queue.add(from);
        made[from] = 0;
        for (int i = 0; i < queue.size(); i++) {
            for (int to = 0; to < made.length; to++) {
                if (made[to] < 0 && joinedLines(queue.get(i), to)) {
                    made[to] = made[queue.get(i)] + 1;
                    queue.add(to);
                }
            }
        }
        return made;
    }

    private static List<Integer> aDayOn(World w, Person person, List<Integer> row) {
        Line line = w.lines.get(person.at);
        return line.lost ? row : after(row, line.edits);
    }

    private List<Integer> inDays(int person, int days) {
        List<Integer> row = world.people.get(person).row;
        for (int i = 0; i < days; i++) {
            row = aDayOn(world, world.people.get(person), row);
        }
        return row;
    }

    // ---- TEXTS

    private static final List<String> KEYWORDS = Arrays.asList(("odds word line for read passim delete after insert "
        + "person at says day go lose find any when lost long has loop end stop").split(" "));

    private List<Token> tokens(int n) {
        List<Token> made = new ArrayList<>();
        int at = 0;
        while (at < n) {
            int c = tape.get(at);
            if (c == 10 || c == 32) {
                at++;
                continue;
            }
            Token token = new Token();
            token.place = at;
            StringBuilder text = new StringBuilder();
            boolean letter = c >= 'a' && c <= 'z';
            boolean digit = c >= '0' && c <= '9';
            if (letter || digit) {
                while (at < n && (letter ? tape.get(at) >= 'a' && tape.get(at) <= 'z'
                    : tape.get(at) >= '0' && tape.get(at) <= '9')) {
                    text.append((char) (int) tape.get(at++));
                }
                token.kind = letter ? 'w' : text.length() > 4 ? '?' : 'n';
            } else {
                text.append((char) c);
                at++;
                token.kind = ";<>=".indexOf(c) >= 0 ? 's' : '?';
            }
            token.text = text.toString();
            made.add(token);
        }
        Token end = new Token();
        end.kind = 'e';
        end.text = "";
        end.place = n;
        made.add(end);
        return made;
    }

    private List<Token> left;

    private Token next() {
        return left.remove(0);
    }

    private Token peek() {
        return left.get(0);
    }

    private Fault wrong(Token token) {
        return new Fault(token.kind == '?' ? 1 : 2, token.place);
    }

    private Token keyword(String... choice) {
        Token token = next();
        if (token.kind != 'w' || !Arrays.asList(choice).contains(token.text)) {
            throw wrong(token);
        }
        return token;
    }

    private Token sign(String choice) {
        Token token = next();
        if (token.kind != 's' || !choice.contains(token.text)) {
            throw wrong(token);
        }
        return token;
    }

    private Token numberToken() {
        Token token = next();
        if (token.kind != 'n') {
            throw wrong(token);
        }
        return token;
    }

    private int number(int least, int most) {
        Token token = numberToken();
        int v = Integer.parseInt(token.text);
        if (v < least || v > most) {
            throw new Fault(4, token.place);
        }
        return v;
    }

    private Token name() {
        Token token = next();
        if (token.kind != 'w' || token.text.length() > 8 || KEYWORDS.contains(token.text)) {
            throw wrong(token);
        }
        return token;
    }

    private int knownWord(World w, Token token) {
        if (!w.words.contains(token.text)) {
            throw new Fault(3, token.place);
        }
        return w.words.indexOf(token.text);
    }

    private int knownPerson(World w) {
        Token token = name();
        for (int i = 0; i < w.people.size(); i++) {
            if (w.people.get(i).name.equals(token.text)) {
                return i;
            }
        }
        throw new Fault(3, token.place);
    }

    private int knownLine(World w) {
        Token token = numberToken();
        int found = lineOf(w, Integer.parseInt(token.text));
        if (found < 0) {
            throw new Fault(3, token.place);
        }
        return found;
    }

    private static int lineOf(World w, int number) {
        for (int i = 0; i < w.lines.size(); i++) {
            if (w.lines.get(i).number == number) {
                return i;
            }
        }
        return -1;
    }

    private String newName(World w) {
        Token token = name();
        boolean taken = w.words.contains(token.text);
        for (Person person : w.people) {
            taken |= person.name.equals(token.text);
        }
        if (taken) {
            throw new Fault(3, token.place);
        }
        return token.text;
    }

    private World readSlip(int n) {
        left = tokens(n);
        World w = new World();
        boolean told = false;
        while (peek().kind != 'e') {
            Token part = keyword("odds", "word", "line", "person");
            switch (part.text) {
                case "odds":
                    if (told) {
                        throw new Fault(5, part.place);
                    }
                    told = true;
                    w.odds = number(0, 16);
                    break;
                case "word":
                    if (w.words.size() == 8) {
                        throw new Fault(6, part.place);
                    }
                    w.words.add(newName(w));
                    break;
                case "line":
                    if (w.lines.size() == 8) {
                        throw new Fault(6, part.place);
                    }
                    readLine(w);
                    break;
                default:
                    if (w.people.size() == 6) {
                        throw new Fault(6, part.place);
                    }
                    readPerson(w);
                    break;
            }
            sign(";");
        }
        return w;
    }

    private void readLine(World w) {
        Line line = new Line();
        Token told = peek();
        line.number = number(1, 999);
        if (lineOf(w, line.number) >= 0) {
            throw new Fault(5, told.place);
        }
        while (Arrays.asList("for", "delete", "after").contains(peek().text)) {
            Token begin = next();
            if (line.edits.size() == 4) {
                throw new Fault(6, begin.place);
            }
            Edit edit = new Edit(Arrays.asList("for", "delete", "after").indexOf(begin.text), 0, 0, false);
            edit.word = knownWord(w, name());
            if (edit.kind != 1) {
                keyword(edit.kind == 0 ? "read" : "insert");
                Token second = name();
                edit.other = knownWord(w, second);
                if (edit.kind == 0 && edit.other == edit.word) {
                    throw new Fault(5, second.place);
                }
            }
            if (edit.kind != 2 && peek().text.equals("passim")) {
                next();
                edit.passim = true;
            }
            line.edits.add(edit);
        }
        w.lines.add(line);
    }

    private void readPerson(World w) {
        Person person = new Person();
        person.name = newName(w);
        keyword("at");
        person.at = knownLine(w);
        if (peek().text.equals("says")) {
            next();
            do {
                Token token = name();
                int word = knownWord(w, token);
                if (person.row.size() == 8) {
                    throw new Fault(6, token.place);
                }
                person.row.add(word);
            } while (peek().kind == 'w');
        }
        w.people.add(person);
    }

    private int stepsRead;

    private List<Step> readYears(int n) {
        left = tokens(n);
        stepsRead = 0;
        List<Step> made = readSteps(0);
        if (peek().kind != 'e') {
            throw wrong(peek());
        }
        return made;
    }

    private List<Step> readSteps(int depth) {
        List<Step> made = new ArrayList<>();
        while (peek().kind != 'e' && !peek().text.equals("end")) {
            Token begin = keyword("day", "go", "lose", "find", "any", "when", "loop", "stop");
            boolean block = begin.text.equals("when") || begin.text.equals("loop");
            if (stepsRead == 30) {
                throw new Fault(6, begin.place);
            }
            if (block && depth == 3) {
                throw new Fault(7, begin.place);
            }
            stepsRead++;
            Step step = new Step();
            step.what = begin.text;
            readStep(step);
            if (block) {
                sign(";");
                step.inside = readSteps(depth + 1);
                keyword("end");
            }
            sign(";");
            made.add(step);
        }
        return made;
    }

    private void readStep(Step step) {
        switch (step.what) {
            case "day":
                step.a = number(1, 20);
                break;
            case "go":
                step.a = knownPerson(world);
                step.b = knownLine(world);
                break;
            case "lose":
            case "find":
                step.a = knownLine(world);
                break;
            case "loop":
                step.a = number(1, 99);
                break;
            case "when":
                step.test = keyword("lost", "has", "long").text;
                if (step.test.equals("lost")) {
                    step.a = knownLine(world);
                } else if (step.test.equals("has")) {
                    step.a = knownPerson(world);
                    step.b = knownWord(world, name());
                } else {
                    step.a = knownPerson(world);
                    step.b = sign("<>=").text.charAt(0);
                    step.c = number(0, 8);
                }
                break;
            default:
                break;
        }
    }

    // ---- YEARS

    private static final class Stop extends RuntimeException {
    }

    private static final class Life {
        World w;
        int seed;
        int steps;
        int missed;
        int days;
        int goings;
        int changes;
        int left;

        int draw(int n) {
            seed = (seed * 2971 + 10771) % 65536;
            return seed / 8 % n;
        }
    }

    private Life live(World w, int seed) {
        Life life = new Life();
        life.w = w;
        life.seed = seed;
        try {
            doAll(w.years, life);
        } catch (Stop stop) {
            // by stop, or by the 300
        }
        return life;
    }

    private void doAll(List<Step> steps, Life life) {
        for (Step step : steps) {
            if (life.steps == 300) {
                life.left = 1;
                throw new Stop();
            }
            life.steps++;
            World w = life.w;
            switch (step.what) {
                case "stop":
                    throw new Stop();
                case "day":
                    doDays(step.a, life);
                    break;
                case "go":
                    doGo(step.a, step.b, life);
                    break;
                case "lose":
                case "find":
                    boolean lose = step.what.equals("lose");
                    if (w.lines.get(step.a).lost == lose) {
                        life.missed++;
                    }
                    w.lines.get(step.a).lost = lose;
                    break;
                case "any":
                    if (w.people.isEmpty()) {
                        life.missed++;
                    } else {
                        int who = life.draw(w.people.size());
                        doGo(who, life.draw(w.lines.size()), life);
                    }
                    break;
                case "loop":
                    for (int i = 0; i < step.a; i++) {
                        doAll(step.inside, life);
                    }
                    break;
                default:
                    if (holds(step, w)) {
                        doAll(step.inside, life);
                    }
                    break;
            }
        }
    }

    private void doDays(int n, Life life) {
        if (life.w.day + n > 9999) {
            life.missed++;
            return;
        }
        for (int i = 0; i < n; i++) {
            for (Person person : life.w.people) {
                List<Integer> next = aDayOn(life.w, person, person.row);
                life.changes += next.equals(person.row) ? 0 : 1;
                person.row = next;
            }
        }
        life.w.day += n;
        life.days += n;
    }

    private void doGo(int who, int line, Life life) {
        World kept = world;
        world = life.w;
        if (joinedLines(life.w.people.get(who).at, line)) {
            life.w.people.get(who).at = line;
            life.goings++;
        } else {
            life.missed++;
        }
        world = kept;
    }

    private static boolean holds(Step step, World w) {
        switch (step.test) {
            case "lost":
                return w.lines.get(step.a).lost;
            case "has":
                return w.people.get(step.a).row.contains(step.b);
            default:
                int size = w.people.get(step.a).row.size();
                return step.b == '<' ? size < step.c : step.b == '>' ? size > step.c : size == step.c;
        }
    }

    // ---- the calls; those of boolean answer 1 or 0

    /** A call by its name; a boolean is told as 1 or 0. */
    long call(String name, long... v) {
        int[] a = new int[v.length];
        for (int i = 0; i < v.length; i++) {
            a[i] = (int) v[i];
        }
        switch (name) {
            case "status":
                return status;
            case "top":
                return top;
            case "bottom":
                return bottom;
            case "fault":
                return a[0] == 0 ? faultKind : a[0] == 1 ? faultPlace : -1;
            case "feed":
                return feed(a);
            default:
                break;
        }
        boolean truth = Arrays.asList("tray", "write", "pour", "lose", "swap", "rule", "chance", "mean").contains(name);
        try {
            long made = a.length == 3 && name.equals("write") ? write(a[0], a[1], v[2]) : answer(name, a);
            status = 0;
            return made;
        } catch (No no) {
            status = no.status;
            return truth ? 0 : -1;
        }
    }

    private int feed(int[] a) {
        if (tape.size() > 880) {
            return -1;
        }
        for (int four : a) {
            tape.add(four >>> 24);
            tape.add(four >>> 16 & 255);
            tape.add(four >>> 8 & 255);
            tape.add(four & 255);
        }
        return tape.size();
    }

    private int write(int tray, int place, long v) {
        ask(isTray(tray), 1);
        ask(trays[tray] != null, 3);
        ask(place >= 0 && place < trays[tray].length, 4);
        int cut = 64 - (8 << sorts[tray]);
        trays[tray][place] = v << cut >> cut;
        return 1;
    }

    private long answer(String name, int[] a) {
        switch (name) {
            case "tray":
            case "read":
            case "pour":
                return onTrays(name, a);
            case "slip":
            case "years":
                return onTexts(name, a[0]);
            case "many":
            case "line":
            case "lineOf":
            case "edit":
            case "placeOf":
            case "length":
            case "says":
            case "copyRow":
                return told(name, a);
            case "day":
            case "go":
            case "lose":
            case "teach":
            case "amend":
            case "strike":
            case "swap":
            case "rule":
                return done(name, a);
            case "right":
            case "vain":
            case "makes":
            case "second":
            case "chance":
            case "same":
            case "circles":
                return byLine(name, a);
            case "joined":
            case "route":
            case "routeFirst":
            case "reach":
            case "omitted":
            case "nextOmitted":
                return amongLines(name, a);
            case "needs":
            case "needsAt":
            case "texts":
            case "clash":
            case "clashAt":
                return behind(name, a);
            case "game":
            case "moveOf":
                return game(name, a);
            case "longIn":
            case "sayIn":
            case "saysFirst":
            case "silentIn":
            case "alikeIn":
                return willBe(name, a);
            default:
                return years(name, a);
        }
    }

    private long onTrays(String name, int[] a) {
        ask(isTray(a[0]), 1);
        if (name.equals("tray")) {
            ask(in(a[1], 0, 3), 1);
            ask(a[2] <= 60, 5);
            ask(a[2] >= 0, 6);
            trays[a[0]] = new long[a[2]];
            sorts[a[0]] = a[1];
            return 1;
        }
        if (name.equals("read")) {
            ask(trays[a[0]] != null, 3);
            ask(a[1] >= 0 && a[1] < trays[a[0]].length, 4);
            return trays[a[0]][a[1]];
        }
        ask(isTray(a[2]), 1);
        ask(trays[a[0]] != null && trays[a[2]] != null, 3);
        ask(sorts[a[0]] == sorts[a[2]], 11);
        ask(a[4] >= 0, 6);
        ask(a[1] >= 0 && (long) a[1] + a[4] <= trays[a[0]].length, 4);
        ask(a[3] >= 0 && (long) a[3] + a[4] <= trays[a[2]].length, 4);
        long[] kept = trays[a[0]].clone();
        for (int i = 0; i < a[4]; i++) {
            trays[a[2]][a[3] + i] = kept[a[1] + i];
        }
        return 1;
    }

    private int onTexts(String name, int n) {
        ask(n >= 0 && n <= tape.size(), 5);
        ask(name.equals("slip") || n <= 300, 5);
        try {
            if (name.equals("slip")) {
                world = readSlip(n);
            } else {
                world.years = readYears(n);
                world.steps = stepsRead;
            }
            faultKind = 0;
            faultPlace = -1;
        } catch (Fault fault) {
            faultKind = fault.kind;
            faultPlace = fault.place;
        }
        tape.clear();
        ask(faultKind == 0, 10);
        return name.equals("slip") ? world.lines.size() : world.steps;
    }

    private int told(String name, int[] a) {
        switch (name) {
            case "many":
                return many(a[0]);
            case "line":
                ask(in(a[0], world.lines), 2);
                return line(a[0], a[1]);
            case "lineOf":
                ask(in(a[0], 1, 999), 5);
                ask(lineOf(world, a[0]) >= 0, 8);
                return lineOf(world, a[0]);
            case "edit":
                ask(in(a[0], world.lines) && in(a[1], world.lines.get(a[0]).edits), 2);
                ask(in(a[2], 0, 3), 5);
                Edit edit = world.lines.get(a[0]).edits.get(a[1]);
                ask(a[2] != 2 || edit.kind != 1, 8);
                return new int[] {edit.kind, edit.word, edit.other, edit.passim ? 1 : 0}[a[2]];
            case "copyRow":
                ask(isTray(a[1]), 1);
                ask(in(a[0], world.people), 2);
                return put(world.people.get(a[0]).row, a[1]);
            default:
                break;
        }
        ask(in(a[0], world.people), 2);
        Person person = world.people.get(a[0]);
        if (name.equals("placeOf")) {
            return person.at;
        }
        if (name.equals("length")) {
            return person.row.size();
        }
        return at(person.row, a[1]);
    }

    private int at(List<Integer> row, int k) {
        ask(row != null && in(k, row), 8);
        return row.get(k);
    }

    private int put(List<Integer> row, int tray) {
        ask(trays[tray] != null, 3);
        ask(trays[tray].length >= row.size(), 4);
        for (int k = 0; k < row.size(); k++) {
            trays[tray][k] = row.get(k);
        }
        return row.size();
    }

    private int many(int what) {
        ask(in(what, 0, 7), 5);
        int lost = 0;
        int edits = 0;
        int said = 0;
        for (int i = 0; i < world.lines.size(); i++) {
            lost += world.lines.get(i).lost ? 1 << i : 0;
            edits += world.lines.get(i).edits.size();
        }
        for (Person person : world.people) {
            said += person.row.size();
        }
        return new int[] {world.words.size(), world.lines.size(), world.people.size(), world.odds, world.day, lost,
            edits, said}[what];
    }

    private int line(int line, int what) {
        ask(in(what, 0, 4), 5);
        Line asked = world.lines.get(line);
        int words = 0;
        for (int word : wordsIn(asked)) {
            words |= 1 << word;
        }
        return new int[] {asked.number, asked.edits.size(), asked.lost ? 1 : 0, words, peopleAt(line)}[what];
    }

    private int peopleAt(int line) {
        int set = 0;
        for (int i = 0; i < world.people.size(); i++) {
            set |= world.people.get(i).at == line ? 1 << i : 0;
        }
        return set;
    }

    private int done(String name, int[] a) {
        switch (name) {
            case "day":
                ask(in(a[0], 1, 99), 5);
                ask(world.day + a[0] <= 9999, 7);
                int set = 0;
                List<List<Integer>> then = new ArrayList<>();
                for (int i = 0; i < world.people.size(); i++) {
                    then.add(inDays(i, a[0]));
                    set |= then.get(i).equals(world.people.get(i).row) ? 0 : 1 << i;
                }
                for (int i = 0; i < then.size(); i++) {
                    world.people.get(i).row = then.get(i);
                }
                world.day += a[0];
                return set;
            case "go":
                ask(in(a[0], world.people) && in(a[1], world.lines), 2);
                ask(joinedLines(world.people.get(a[0]).at, a[1]), 9);
                world.people.get(a[0]).at = a[1];
                return Integer.bitCount(peopleAt(a[1]));
            case "lose":
                ask(in(a[0], world.lines), 2);
                ask(world.lines.get(a[0]).lost != (a[1] == 1), 9);
                world.lines.get(a[0]).lost = a[1] == 1;
                return 1;
            case "teach":
                askRow(a[1], a[2], in(a[0], world.people));
                world.people.get(a[0]).row = row(a[1], a[2]);
                return a[2];
            case "rule":
                ask(in(a[0], 0, 16), 5);
                world.odds = a[0];
                return 1;
            default:
                return changeEdits(name, a);
        }
    }

    private int changeEdits(String name, int[] a) {
        ask(in(a[0], world.lines), 2);
        List<Edit> edits = world.lines.get(a[0]).edits;
        if (name.equals("amend")) {
            ask(in(a[2], world.words), 2);
            ask(a[1] == 1 || in(a[3], world.words), 2);
            ask(in(a[1], 0, 2), 5);
            ask(a[1] != 0 || a[2] != a[3], 5);
            ask(edits.size() < 4, 7);
            edits.add(new Edit(a[1], a[2], a[1] == 1 ? 0 : a[3], a[1] != 2 && a[4] == 1));
            return edits.size();
        }
        ask(in(a[1], edits), 2);
        if (name.equals("strike")) {
            edits.remove(a[1]);
            return edits.size();
        }
        ask(in(a[2], edits), 2);
        ask(a[1] != a[2], 9);
        Edit kept = edits.get(a[1]);
        edits.set(a[1], edits.get(a[2]));
        edits.set(a[2], kept);
        return 1;
    }

    private int byLine(String name, int[] a) {
        if (name.equals("second")) {
            askRows(a[0], a[1], a[2], a[3], true);
            return distance(row(a[0], a[1]), row(a[2], a[3]));
        }
        boolean hasLine = in(a[2], world.lines);
        switch (name) {
            case "right":
                ask(isTray(a[0]) && isTray(a[3]), 1);
                ask(hasLine, 2);
                ask(trays[a[0]] != null && trays[a[3]] != null, 3);
                askRow(a[0], a[1], true);
                return put(after(row(a[0], a[1]), world.lines.get(a[2]).edits), a[3]);
            case "makes":
            case "chance":
                askRows(a[0], a[1], a[3], a[4], hasLine);
                break;
            default:
                askRow(a[0], a[1], hasLine);
                break;
        }
        List<Integer> row = row(a[0], a[1]);
        List<Edit> edits = world.lines.get(a[2]).edits;
        switch (name) {
            case "vain":
                return vainSet(row, edits);
            case "makes":
                return after(row, edits).equals(row(a[3], a[4])) ? 1 : 0;
            case "chance":
                long sum = 0;
                for (Map.Entry<List<Integer>, Long> end : ends(row, edits).entrySet()) {
                    sum += end.getKey().equals(row(a[3], a[4])) ? end.getValue() : 0;
                }
                tell(sum, (long) Math.pow(16, edits.size()));
                return 1;
            case "same":
                return orders(row, new ArrayList<>(edits), after(row, edits));
            default:
                List<List<Integer>> past = new ArrayList<>();
                while (!past.contains(row)) {
                    past.add(row);
                    row = after(row, edits);
                }
                ask(past.size() <= 500, 8);
                return past.size();
        }
    }

    private Map<List<Integer>, Long> ends(List<Integer> row, List<Edit> edits) {
        Map<List<Integer>, Long> made = new HashMap<>();
        made.put(row, 1L);
        for (Edit edit : edits) {
            Map<List<Integer>, Long> next = new HashMap<>();
            for (Map.Entry<List<Integer>, Long> one : made.entrySet()) {
                next.merge(one.getKey(), one.getValue() * world.odds, Long::sum);
                next.merge(after(one.getKey(), List.of(edit)), one.getValue() * (16 - world.odds), Long::sum);
            }
            made = next;
        }
        return made;
    }

    private void tell(long over, long under) {
        long divisor = 1;
        for (long d = 1; d <= under; d++) {
            if (over % d == 0 && under % d == 0) {
                divisor = d;
            }
        }
        top = over / divisor;
        bottom = under / divisor;
    }

    private static int orders(List<Integer> row, List<Edit> left, List<Integer> wanted) {
        if (left.isEmpty()) {
            return row.equals(wanted) ? 1 : 0;
        }
        int found = 0;
        for (int i = 0; i < left.size(); i++) {
            List<Edit> rest = new ArrayList<>(left);
            Edit edit = rest.remove(i);
            found += orders(after(row, List.of(edit)), rest, wanted);
        }
        return found;
    }

    static int distance(List<Integer> from, List<Integer> to) {
        int[][] fewest = new int[from.size() + 1][to.size() + 1];
        for (int i = 0; i <= from.size(); i++) {
            for (int j = 0; j <= to.size(); j++) {
                if (i == 0 || j == 0) {
                    fewest[i][j] = i + j;
                } else {
                    int kept = from.get(i - 1).equals(to.get(j - 1)) ? 0 : 1;
                    fewest[i][j] = Math.min(fewest[i - 1][j - 1] + kept,
                        1 + Math.min(fewest[i - 1][j], fewest[i][j - 1]));
                }
            }
        }
        return fewest[from.size()][to.size()];
    }

    private int amongLines(String name, int[] a) {
        if (name.equals("omitted") || name.equals("nextOmitted")) {
            int to = name.equals("omitted") ? a[1] : 999;
            ask(a[0] >= 1 && to <= 999 && a[0] <= to, 5);
            int found = 0;
            for (int number = a[0]; number <= to; number++) {
                int line = lineOf(world, number);
                if (line < 0 || world.lines.get(line).lost) {
                    if (name.equals("nextOmitted")) {
                        return number;
                    }
                    found++;
                }
            }
            ask(name.equals("omitted"), 8);
            return found;
        }
        ask(in(a[0], world.lines), 2);
        int[] away = away(a[0]);
        if (name.equals("reach")) {
            int set = 0;
            for (int i = 0; i < away.length; i++) {
                set |= away[i] >= 0 ? 1 << i : 0;
            }
            return set;
        }
        ask(in(a[1], world.lines), 2);
        if (name.equals("joined")) {
            ask(a[0] != a[1], 9);
            return joinedLines(a[0], a[1]) ? 1 : 0;
        }
        ask(away[a[1]] >= 0, 8);
        if (name.equals("route")) {
            return away[a[1]];
        }
        ask(a[0] != a[1], 9);
        int[] back = away(a[1]);
        for (int i = 0; ; i++) {
            if (away[i] == 1 && back[i] == away[a[1]] - 1) {
                return i;
            }
        }
    }

    private int behind(String name, int[] a) {
        if (name.equals("texts")) {
            askRow(a[0], a[1], in(a[2], world.lines));
            ask(in(a[3], 0, 5), 5);
            List<Edit> edits = world.lines.get(a[2]).edits;
            List<Integer> wanted = row(a[0], a[1]);
            int found = 0;
            for (List<Integer> row : rowsOf(a[3])) {
                found += vainSet(row, edits) == 0 && after(row, edits).equals(wanted) ? 1 : 0;
            }
            return found;
        }
        ask(in(a[0], world.lines), 2);
        boolean clash = name.startsWith("clash");
        ask(!clash || in(a[1], world.lines), 2);
        ask(!clash || a[0] != a[1], 9);
        List<Integer> found = null;
        for (int m = 0; m <= (clash ? 3 : 5) && found == null; m++) {
            for (List<Integer> row : rowsOf(m)) {
                if (found == null && (clash ? differ(row, a[0], a[1]) : vainSet(row, world.lines.get(a[0]).edits) == 0)) {
                    found = row;
                }
            }
        }
        if (name.endsWith("At")) {
            return at(found, a[clash ? 2 : 1]);
        }
        ask(found != null, 8);
        return found.size();
    }

    private boolean differ(List<Integer> row, int a, int b) {
        List<Edit> one = world.lines.get(a).edits;
        List<Edit> two = world.lines.get(b).edits;
        return !after(after(row, one), two).equals(after(after(row, two), one));
    }

    private int game(String name, int[] a) {
        askRow(a[0], a[1], in(a[2], world.lines) && in(a[3], world.words) && in(a[4], world.words));
        ask(a[3] != a[4], 5);
        ask(in(a[5], name.equals("game") ? 0 : 1, 4), 5);
        List<Integer> row = row(a[0], a[1]);
        List<Edit> edits = new ArrayList<>(world.lines.get(a[2]).edits);
        int best = play(row, edits, a, a[5], true);
        if (name.equals("game")) {
            return best;
        }
        for (int i = 0; i < edits.size(); i++) {
            List<Edit> rest = new ArrayList<>(edits);
            Edit edit = rest.remove(i);
            if (play(after(row, List.of(edit)), rest, a, a[5] - 1, false) == best) {
                return i;
            }
        }
        throw new No(8);
    }

    private static int play(List<Integer> row, List<Edit> left, int[] a, int turns, boolean first) {
        if (turns == 0) {
            int made = 0;
            for (int word : row) {
                made += word == a[3] ? 1 : word == a[4] ? -1 : 0;
            }
            return made;
        }
        List<Integer> values = new ArrayList<>();
        values.add(play(row, left, a, turns - 1, !first));
        for (int i = 0; i < left.size(); i++) {
            List<Edit> rest = new ArrayList<>(left);
            Edit edit = rest.remove(i);
            values.add(play(after(row, List.of(edit)), rest, a, turns - 1, !first));
        }
        return first ? java.util.Collections.max(values) : java.util.Collections.min(values);
    }

    private int willBe(String name, int[] a) {
        ask(in(a[0], world.people), 2);
        if (name.equals("saysFirst") || name.equals("silentIn")) {
            boolean silent = name.equals("silentIn");
            ask(silent || in(a[1], world.words), 2);
            List<Integer> row = world.people.get(a[0]).row;
            for (int days = 0; days <= 500; days++) {
                if (silent ? row.isEmpty() : row.contains(a[1])) {
                    return days;
                }
                row = aDayOn(world, world.people.get(a[0]), row);
            }
            throw new No(8);
        }
        ask(in(a[1], 0, 500), 5);
        List<Integer> row = inDays(a[0], a[1]);
        if (name.equals("longIn")) {
            return row.size();
        }
        if (name.equals("sayIn")) {
            return at(row, a[2]);
        }
        int set = 0;
        for (int i = 0; i < world.people.size(); i++) {
            set |= i != a[0] && inDays(i, a[1]).equals(row) ? 1 << i : 0;
        }
        return set;
    }

    private int years(String name, int[] a) {
        switch (name) {
            case "live":
                ask(in(a[0], 0, 9999), 5);
                ask(world.years != null, 8);
                Life life = live(world, a[0]);
                lived = new int[] {life.missed, life.days, life.goings, life.changes, life.left};
                return life.steps;
            case "lived":
                ask(in(a[0], 0, 4), 5);
                ask(lived != null, 8);
                return lived[a[0]];
            case "mean":
                ask(in(a[1], 1, 20) && in(a[0], 0, 9999) && a[0] + a[1] - 1 <= 9999, 5);
                ask(world.years != null, 8);
                long sum = 0;
                for (int i = 0; i < a[1]; i++) {
                    World w = world.copy();
                    live(w, a[0] + i);
                    for (Person person : w.people) {
                        sum += person.row.size();
                    }
                }
                tell(sum, a[1]);
                return 1;
            case "mark":
                ask(marks.size() < 3, 7);
                marks.add(world.copy());
                return marks.size();
            case "back":
                ask(!marks.isEmpty(), 8);
                world = marks.remove(marks.size() - 1);
                return marks.size();
            default:
                throw new IllegalArgumentException(name);
        }
    }
}
