import java.lang.reflect.Method;
import java.util.ArrayList;
import java.util.Arrays;
import java.util.HashMap;
import java.util.HashSet;
import java.util.List;
import java.util.Map;
import java.util.Random;
import java.util.Set;

/** Random runs of calls, each answered by the class and by Model: the two must agree. */
public final class RandomTest {
    /** The calls with the kinds of their arguments, and how likely each is. */
    private static final String[] CALLS = {
        "tray tsm 2", "write tkv 2", "read tk 2", "pour tktkm 2", "fault f 2", "many a 3", "line la 4", "lineOf # 2",
        "edit lea 4", "placeOf p 2", "length p 2", "says pk 2", "copyRow pt 3", "day d 3", "go pl 6", "lose lb 4",
        "teach ptn 4", "amend laww b 6", "strike le 2", "swap lee 3", "rule o 2", "right tnlt 6", "vain tnl 4",
        "makes tnltn 4", "second tntn 4", "chance tnltn 5", "same tnl 5", "circles tnl 5", "joined ll 4", "route ll 4",
        "routeFirst ll 4", "reach l 3", "omitted ## 3", "nextOmitted # 3", "needs l 3", "needsAt lk 3", "texts tnli 3",
        "clash ll 3", "clashAt llk 3", "game tnlwwi 5", "moveOf tnlwwi 5", "longIn pD 2", "sayIn pDk 3", "saysFirst pw 3",
        "silentIn p 3", "alikeIn pD 3", "live S 4", "lived i 4", "mean SM 2", "mark  2", "back  2", "slip  2",
        "years  4", "row  25"
    };

    private static final String[] NAMES = {"a", "be", "cat", "dog", "eel", "fox", "gnu", "hen", "ibis", "jay", "ant", "owl"};
    private static final int[] NUMBERS = {1, 2, 3, 4, 8, 9, 10, 40, 998, 999};

    private final Random random;
    private final List<String> told = new ArrayList<>();
    private final Set<String> good = new HashSet<>();
    private final Set<String> faults = new HashSet<>();
    private ErrataLand x;
    private Model model;

    private RandomTest(long seed) {
        random = new Random(seed);
    }

    public static void main(String[] args) throws Exception {
        int runs = args.length > 0 ? Integer.parseInt(args[0]) : 1000;
        RandomTest test = new RandomTest(args.length > 1 ? Long.parseLong(args[1]) : 20261118L);
        for (int run = 0; run < runs; run++) {
            if (!test.runOnce()) {
                System.exit(1);
            }
        }
        for (String call : CALLS) {
            String name = call.split(" ")[0];
            if (!name.equals("row") && !test.good.contains(name)) {
                System.out.println(name + " was never answered with STATUS 0");
                System.exit(1);
            }
        }
        for (String fault : "slip 0,slip 1,slip 2,slip 3,slip 4,slip 5,slip 6,years 0,years 1,years 2,years 3,years 4,years 6,years 7"
            .split(",")) {
            if (!test.faults.contains(fault)) {
                System.out.println("a text of the fault " + fault + " was never read");
                System.exit(1);
            }
        }
        System.out.println(runs + " random runs agree with the model");
    }

    private boolean runOnce() throws Exception {
        x = new ErrataLand();
        model = new Model();
        told.clear();
        List<String> deck = new ArrayList<>();
        for (String call : CALLS) {
            for (int i = 0; i < Integer.parseInt(call.substring(call.lastIndexOf(' ') + 1)); i++) {
                deck.add(call);
            }
        }
        boolean agrees = random.nextInt(20) == 0 || text(true) && text(false);
        while (agrees && told.size() < 400) {
            agrees = step(deck.get(random.nextInt(deck.size())));
        }
        if (!agrees) {
            for (String call : told) {
                System.out.println(call);
            }
        }
        return agrees;
    }

    private boolean step(String call) throws Exception {
        String name = call.split(" ")[0];
        if (name.equals("row")) {
            return fillRow(random.nextInt(4));
        }
        if (name.equals("slip") || name.equals("years")) {
            return name.equals("slip") ? random.nextInt(3) != 0 || text(true) : text(false);
        }
        String kinds = call.substring(name.length(), call.lastIndexOf(' ')).replace(" ", "");
        long[] a = new long[kinds.length()];
        for (int i = 0; i < a.length; i++) {
            a[i] = argument(kinds.charAt(i));
        }
        return same(name, a);
    }

    private int upTo(int many) {
        int dice = random.nextInt(25);
        if (dice == 0) {
            return -1;
        }
        return dice == 1 ? many : many == 0 ? 0 : random.nextInt(many);
    }

    private long argument(char kind) {
        Model.World w = model.world;
        switch (kind) {
            case 't':
                return upTo(4);
            case 's':
                return upTo(4);
            case 'm':
                return random.nextInt(20) == 0 ? random.nextInt(70) - 3 : random.nextInt(10);
            case 'k':
                return random.nextInt(8) == 0 ? random.nextInt(70) - 5 : random.nextInt(6);
            case 'v':
                return random.nextBoolean() ? random.nextInt(9) - 1 : random.nextLong();
            case 'f':
                return random.nextInt(4) - 1;
            case 'a':
                return random.nextInt(30) == 0 ? -1 : random.nextInt(8) == 0 ? random.nextInt(9) : random.nextInt(4);
            case 'l':
                return upTo(w.lines.size());
            case 'e':
                return random.nextInt(20) == 0 ? -1 : random.nextInt(3);
            case 'p':
                return upTo(w.people.size());
            case 'w':
                return upTo(w.words.size());
            case '#':
                return random.nextInt(10) == 0 ? random.nextInt(1010) - 3 : NUMBERS[random.nextInt(NUMBERS.length)];
            case 'd':
                return random.nextInt(6) == 0 ? random.nextInt(104) - 2 : random.nextInt(3) == 0 ? 99 : 1 + random.nextInt(3);
            case 'D':
                return random.nextInt(6) == 0 ? random.nextInt(510) - 4 : random.nextInt(5);
            case 'b':
                return random.nextInt(2);
            case 'n':
                return random.nextInt(12) == 0 ? random.nextInt(12) - 1 : random.nextInt(4);
            case 'i':
                return random.nextInt(12) == 0 ? random.nextInt(8) - 1 : random.nextInt(4);
            case 'o':
                return random.nextInt(19) - 1;
            case 'S':
                return random.nextInt(8) == 0 ? 9990 + random.nextInt(12) : random.nextInt(10000);
            case 'M':
                return random.nextInt(22);
            default:
                throw new IllegalArgumentException("kind " + kind);
        }
    }

    private boolean fillRow(int tray) throws Exception {
        int many = random.nextInt(4) == 0 ? 8 : random.nextInt(9);
        boolean agrees = same("tray", tray, random.nextInt(4), many);
        for (int i = 0; i < many && agrees; i++) {
            int words = model.world.words.size();
            agrees = same("write", tray, i, words == 0 ? 0 : random.nextInt(words));
        }
        return agrees;
    }

    /** Asks both, and STATUS, the FRACTION and fault() of both. */
    private boolean same(String name, long... a) throws Exception {
        told.add(name + Arrays.toString(a));
        boolean agrees = agree(name, a) && agree("status") && agree("top") && agree("bottom") && agree("fault", 0)
            && agree("fault", 1);
        if (x.status() == 0) {
            good.add(name);
        }
        return agrees;
    }

    private static final Map<String, Method> METHODS = new HashMap<>();

    static {
        for (Method method : ErrataLand.class.getDeclaredMethods()) {
            METHODS.put(method.getName(), method);
        }
    }

    private boolean agree(String name, long... a) throws Exception {
        Method method = METHODS.get(name);
        Object[] given = new Object[a.length];
        for (int i = 0; i < a.length; i++) {
            Class<?> type = method.getParameterTypes()[i];
            given[i] = type == boolean.class ? (Object) (a[i] == 1) : type == long.class ? (Object) a[i] : (Object) (int) a[i];
        }
        Object made = method.invoke(x, given);
        long got = made instanceof Boolean ? (Boolean) made ? 1 : 0 : ((Number) made).longValue();
        long want = model.call(name, a);
        if (got != want) {
            told.add("^ " + name + Arrays.toString(a) + " answered " + got + ", the model says " + want);
        }
        return got == want;
    }

    // ---- TEXTS

    private boolean text(boolean slip) throws Exception {
        StringBuilder text = new StringBuilder();
        List<String> tokens = slip ? slipTokens() : yearsTokens();
        for (int faults = random.nextInt(3); faults > 0 && random.nextInt(4) == 0; faults--) {
            spoil(tokens);
        }
        for (String token : tokens) {
            boolean sign = ";<>=".contains(token);
            if (!sign || random.nextInt(20) == 0) {
                text.append(random.nextInt(20) == 0 ? '\n' : ' ');
            }
            text.append(token);
        }
        if (text.length() > (slip ? 900 : 300)) {
            text.setLength(slip ? 900 : 300);
        }
        if (random.nextInt(60) == 0 && text.length() > 0) {
            text.setCharAt(random.nextInt(text.length()), (char) random.nextInt(256));
        }
        told.add(text.toString());
        boolean agrees = true;
        for (int at = 0; at < text.length() && agrees; at += 20) {
            long[] four = new long[5];
            for (int i = 0; i < 20; i++) {
                int c = at + i < text.length() ? text.charAt(at + i) : ' ';
                four[i / 4] = (int) (four[i / 4] << 8 | c);
            }
            agrees = same("feed", four);
        }
        int n = random.nextInt(30) == 0 ? text.length() + random.nextInt(60) - 30 : text.length();
        agrees = agrees && same(slip ? "slip" : "years", n);
        faults.add((slip ? "slip " : "years ") + x.fault(0));
        return agrees;
    }

    private void spoil(List<String> tokens) {
        String[] pool = {"odds", "word", "line", "for", "read", "passim", "delete", "after", "insert", "person", "at", "says",
            "day", "go", "lose", "find", "any", "when", "lost", "long", "has", "loop", "end", "stop", ";", "<", ">", "=", "0",
            "1", "9", "17", "999", "1000", "9999", "12345", "abcdefghi", "abcdefgh", "!", "A", "a", "be", "cat", "dog"};
        int at = tokens.isEmpty() ? 0 : random.nextInt(tokens.size());
        String token = pool[random.nextInt(pool.length)];
        int way = random.nextInt(3);
        if (way == 0 || tokens.isEmpty()) {
            tokens.add(at, token);
        } else if (way == 1) {
            tokens.set(at, token);
        } else {
            tokens.remove(at);
        }
    }

    private int words;

    private String word() {
        return NAMES[random.nextInt(500) == 0 ? random.nextInt(NAMES.length) : random.nextInt(Math.max(1, words))];
    }

    private List<String> slipTokens() {
        List<String> made = new ArrayList<>();
        words = random.nextInt(40) == 0 ? 9 : 1 + random.nextInt(random.nextInt(3) == 0 ? 8 : 4);
        if (random.nextInt(3) != 0) {
            add(made, "odds", "" + (random.nextInt(20) == 0 ? 17 : random.nextInt(17)), ";");
        }
        for (int i = 0; i < words; i++) {
            add(made, "word", NAMES[i], ";");
        }
        int lines = random.nextInt(20) == 0 ? 9 : random.nextInt(8);
        List<String> numbers = new ArrayList<>();
        for (int i = 0; i < lines; i++) {
            String number = "" + (random.nextInt(4) == 0 ? 1 + random.nextInt(999) : NUMBERS[random.nextInt(NUMBERS.length)]);
            if (numbers.contains(number) && random.nextInt(30) != 0) {
                continue;
            }
            numbers.add(number);
            add(made, "line", number);
            for (int edits = random.nextInt(random.nextInt(40) == 0 ? 6 : 5); edits > 0; edits--) {
                addEdit(made);
            }
            add(made, ";");
        }
        int people = numbers.isEmpty() ? 0 : random.nextInt(30) == 0 ? 7 : random.nextInt(7);
        for (int i = 0; i < people; i++) {
            add(made, "person", "p" + (char) ('a' + i), "at", numbers.get(random.nextInt(numbers.size())));
            int said = random.nextInt(60) == 0 ? 9 : random.nextInt(9);
            if (said > 0) {
                add(made, "says");
            }
            for (int k = 0; k < said; k++) {
                add(made, word());
            }
            add(made, ";");
        }
        return made;
    }

    private void addEdit(List<String> made) {
        String first = word();
        String second = word();
        int kind = random.nextInt(3);
        if (kind == 0 && (!first.equals(second) || random.nextInt(20) == 0)) {
            add(made, "for", first, "read", second);
        } else if (kind == 1) {
            add(made, "delete", first);
        } else {
            add(made, "after", first, "insert", second);
            return;
        }
        if (random.nextInt(3) == 0) {
            add(made, "passim");
        }
    }

    private static void add(List<String> made, String... tokens) {
        made.addAll(Arrays.asList(tokens));
    }

    private String person() {
        int people = model.world.people.size();
        return people == 0 || random.nextInt(60) == 0 ? "pz" : model.world.people.get(random.nextInt(people)).name;
    }

    private String lineNumber() {
        int lines = model.world.lines.size();
        return lines == 0 || random.nextInt(60) == 0 ? "77" : "" + model.world.lines.get(random.nextInt(lines)).number;
    }

    private List<String> yearsTokens() {
        List<String> made = new ArrayList<>();
        int depth = 0;
        int steps = random.nextInt(30) == 0 ? 40 : random.nextInt(14);
        for (int i = 0; i < steps; i++) {
            int kind = random.nextInt(12);
            if (depth > 0 && random.nextInt(4) == 0) {
                add(made, "end", ";");
                depth--;
            }
            if (model.world.lines.isEmpty() && kind > 1 && kind < 5) {
                kind = 11;
            }
            if (model.world.people.isEmpty() && kind > 3 && kind < 8) {
                kind = 0;
            }
            if (kind == 0 || kind == 1) {
                add(made, "day", "" + (random.nextInt(30) == 0 ? random.nextInt(23) : 1 + random.nextInt(20)));
            } else if (kind == 2 || kind == 3) {
                add(made, random.nextBoolean() ? "lose" : "find", lineNumber());
            } else if (kind == 4) {
                add(made, "go", person(), lineNumber());
            } else if (kind == 5 || kind == 6) {
                add(made, "any");
            } else if (kind == 7 || kind == 8 || kind == 9 && depth < 3) {
                addBlock(made);
                depth++;
            } else {
                add(made, random.nextInt(6) == 0 ? "stop" : "any");
            }
            add(made, ";");
        }
        for (; depth > 0; depth--) {
            add(made, "end", ";");
        }
        return made;
    }

    private void addBlock(List<String> made) {
        int kind = random.nextInt(5);
        if (kind < 2 || model.world.people.isEmpty()) {
            add(made, "loop", "" + (random.nextInt(3) == 0 ? random.nextInt(101) : 1 + random.nextInt(9)));
        } else if (kind == 2 && !model.world.lines.isEmpty()) {
            add(made, "when", "lost", lineNumber());
        } else if (kind == 3) {
            words = Math.min(model.world.words.size(), NAMES.length);
            add(made, "when", "has", person(), word());
        } else {
            add(made, "when", "long", person(), "<>=".charAt(random.nextInt(3)) + "", "" + random.nextInt(9));
        }
    }
}
