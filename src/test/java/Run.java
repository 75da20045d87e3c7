import java.lang.reflect.Method;
import java.util.ArrayList;
import java.util.Arrays;
import java.util.HashMap;
import java.util.List;
import java.util.Map;

/** A run of calls on one object, each told as a text ("tray(0, 1, 8)") with the answer that is due. */
final class Run {
    /** The document promises nothing about an object behind its 512th call. */
    private static final int MOST_CALLS = 512;
    private static final List<String> WITHOUT_STATUS = Arrays.asList("status", "fault", "feed", "top", "bottom");
    private static final Map<String, Method> METHODS = new HashMap<>();

    static {
        for (Method method : ErrataLand.class.getMethods()) {
            METHODS.put(method.getName(), method);
        }
    }

    private final Checks checks;
    private final ErrataLand x = new ErrataLand();
    /** What was called and not refused: done again on a new object, it makes one like this. */
    private final List<String> done = new ArrayList<>();
    private int calls;

    Run(Checks checks) {
        this.checks = checks;
    }

    /** The answer is as due, and STATUS is 0 if the call has one. */
    Run gives(String call, long answer) {
        checks.due(call, ask(call), answer);
        done.add(call);
        if (!WITHOUT_STATUS.contains(nameOf(call))) {
            checks.due(call + ", its STATUS", ask("status()"), 0);
        }
        return this;
    }

    /** The same for many calls. */
    Run does(String... many) {
        for (String call : many) {
            ask(call);
            done.add(call);
            checks.due(call + ", its STATUS", ask("status()"), 0);
        }
        return this;
    }

    /** NONE or false is answered, by this STATUS, and nothing but STATUS is changed. */
    Run refused(String call, int status) {
        boolean isFlag = METHODS.get(nameOf(call)).getReturnType() == boolean.class;
        checks.due(call, ask(call), isFlag ? 0 : ErrataLand.NONE);
        checks.due(call + ", its STATUS", ask("status()"), status);
        changesNothing(call, true);
        return this;
    }

    /** Two objects that are like this one, of which one has had the call more, must be alike. */
    private void changesNothing(String call, boolean texts) {
        ErrataLand without = again();
        ErrataLand with = again();
        invoke(with, call);
        String due = Picture.of(without, done.size(), texts);
        String got = Picture.of(with, done.size() + 1, texts);
        checks.due(call + " changes nothing (" + due + " became " + got + ")", due.equals(got), true);
    }

    private ErrataLand again() {
        ErrataLand made = new ErrataLand();
        for (String call : done) {
            invoke(made, call);
        }
        return made;
    }

    // ---- TEXTS

    Run fed(String text) {
        for (int at = 0; at < text.length(); at += 20) {
            StringBuilder call = new StringBuilder("feed(");
            for (int i = 0; i < 20; i += 4) {
                int four = 0;
                for (int k = at + i; k < at + i + 4; k++) {
                    four = four << 8 | (k < text.length() ? text.charAt(k) : ' ') & 255;
                }
                call.append(four).append(i < 16 ? ", " : ")");
            }
            ask(call.toString());
            done.add(call.toString());
        }
        return this;
    }

    Run slip(String text, int lines) {
        return fed(text).gives("slip(" + text.length() + ")", lines);
    }

    Run years(String text, int steps) {
        return fed(text).gives("years(" + text.length() + ")", steps);
    }

    Run badSlip(String text, int fault, int place) {
        return fed(text).faulty("slip(" + text.length() + ")", text, fault, place);
    }

    Run badYears(String text, int fault, int place) {
        return fed(text).faulty("years(" + text.length() + ")", text, fault, place);
    }

    /** A text of so many bytes is not taken: its FAULT is told, the tape is empty, all else stays. */
    Run faulty(String call, String text, int fault, int place) {
        checks.due("'" + text + "' " + call, ask(call), ErrataLand.NONE);
        checks.due("'" + text + "' its STATUS", ask("status()"), 10);
        checks.due("'" + text + "' fault(0)", ask("fault(0)"), fault);
        checks.due("'" + text + "' fault(1)", ask("fault(1)"), place);
        changesNothing(call, false);
        done.add(call);
        checks.due("'" + text + "' the tape behind it", ask("slip(1)"), ErrataLand.NONE);
        checks.due("'" + text + "' the tape behind it, STATUS", ask("status()"), 5);
        return this;
    }

    // ---- ROWS and more

    /** A TRAY of 16 bits that has just these numbers. */
    Run row(int tray, int... numbers) {
        does("tray(" + tray + ", 1, " + numbers.length + ")");
        for (int i = 0; i < numbers.length; i++) {
            does("write(" + tray + ", " + i + ", " + numbers[i] + ")");
        }
        return this;
    }

    /** All numbers of a TRAY. */
    Run holds(int tray, long... numbers) {
        for (int i = 0; i < numbers.length; i++) {
            gives("read(" + tray + ", " + i + ")", numbers[i]);
        }
        ask("read(" + tray + ", " + numbers.length + ")");
        checks.due("tray " + tray + " has " + numbers.length + " numbers", ask("status()"), 4);
        return this;
    }

    /** What a PERSON says, each WORD a digit. */
    Run says(int person, String row) {
        gives("length(" + person + ")", row.length());
        for (int k = 0; k < row.length(); k++) {
            gives("says(" + person + ", " + k + ")", row.charAt(k) - '0');
        }
        return this;
    }

    Run fraction(long top, long bottom) {
        return gives("top()", top).gives("bottom()", bottom);
    }

    /**
     * The wrong ROWS of a call, in which T stands for the TRAY and N for how many numbers: of words a to d, with TRAYS
     * 0 and 1 to be filled anew here, TRAY 2 MISSING.
     */
    Run wrongRows(String call) {
        row(0, 0, 1, 4);
        row(1, 0, 1, 2, 3, 0, 1, 2, 3, 0);
        refused(call.replace("T", "-1").replace("N", "1"), 1);
        refused(call.replace("T", "4").replace("N", "1"), 1);
        refused(call.replace("T", "2").replace("N", "0"), 3);
        refused(call.replace("T", "0").replace("N", "4"), 4);
        refused(call.replace("T", "1").replace("N", "10"), 4);
        refused(call.replace("T", "0").replace("N", "2147483647"), 4);
        refused(call.replace("T", "1").replace("N", "9"), 5);
        refused(call.replace("T", "1").replace("N", "-1"), 5);
        refused(call.replace("T", "0").replace("N", "-2147483648"), 5);
        refused(call.replace("T", "0").replace("N", "3"), 5);
        does("write(0, 1, -1)");
        refused(call.replace("T", "0").replace("N", "2"), 5);
        does(call.replace("T", "0").replace("N", "1"));
        does("tray(0, 3, 1)", "write(0, 0, 4294967296)");
        refused(call.replace("T", "0").replace("N", "1"), 5);
        return does(call.replace("T", "0").replace("N", "0"));
    }

    // ---- calls

    private static String nameOf(String call) {
        return call.substring(0, call.indexOf('('));
    }

    private long ask(String call) {
        calls++;
        if (calls > MOST_CALLS) {
            throw new IllegalStateException("more than 512 calls of one object");
        }
        return invoke(x, call);
    }

    private static long invoke(ErrataLand on, String call) {
        Method method = METHODS.get(nameOf(call));
        String told = call.substring(call.indexOf('(') + 1, call.length() - 1).trim();
        String[] parts = told.isEmpty() ? new String[0] : told.split(",\\s*");
        Class<?>[] types = method.getParameterTypes();
        if (parts.length != types.length) {
            throw new IllegalArgumentException(call);
        }
        Object[] given = new Object[parts.length];
        for (int i = 0; i < parts.length; i++) {
            if (types[i] == boolean.class) {
                given[i] = Boolean.valueOf(parts[i]);
            } else if (types[i] == long.class) {
                given[i] = Long.valueOf(parts[i]);
            } else {
                given[i] = Integer.valueOf(parts[i]);
            }
        }
        try {
            Object made = method.invoke(on, given);
            return made instanceof Boolean ? (Boolean) made ? 1 : 0 : ((Number) made).longValue();
        } catch (ReflectiveOperationException e) {
            throw new IllegalStateException(call, e);
        }
    }
}
