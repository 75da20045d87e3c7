/** What the tests share: answers that are due, texts for the tape, rows for trays. */
final class Checks {
    private int wrong;
    private int asked;
    private String about = "";

    /** What the checks behind it are about, told with each that fails. */
    void about(String what) {
        about = what;
    }

    void due(String call, long got, long want) {
        asked++;
        if (got != want) {
            wrong++;
            System.out.println(about + ": " + call + " answered " + got + ", due is " + want);
        }
    }

    void due(String call, boolean got, boolean want) {
        due(call, got ? 1 : 0, want ? 1 : 0);
    }

    /** An answer, and the STATUS of the call that gave it. */
    void due(ErrataLand x, String call, long got, long want, int status) {
        due(call, got, want);
        due(call + ", its status", x.status(), status);
    }

    void yes(ErrataLand x, String call, boolean got) {
        due(x, call, got ? 1 : 0, 1, 0);
    }

    void no(ErrataLand x, String call, long got, int status) {
        due(x, call, got, ErrataLand.NONE, status);
    }

    void no(ErrataLand x, String call, boolean got, int status) {
        due(x, call, got ? 1 : 0, 0, status);
    }

    void fraction(ErrataLand x, String call, long top, long bottom) {
        due(call + ", the top", x.top(), top);
        due(call + ", the bottom", x.bottom(), bottom);
    }

    void end() {
        System.out.println(wrong == 0 ? asked + " answers are as due" : wrong + " of " + asked + " answers are not as due");
        if (wrong != 0) {
            System.exit(1);
        }
    }

    /** Feeds a text: the bytes behind it up to the next twenty are blanks. */
    static void feed(ErrataLand x, String text) {
        for (int at = 0; at < text.length(); at += 20) {
            int[] four = new int[5];
            for (int i = 0; i < 20; i++) {
                int c = at + i < text.length() ? text.charAt(at + i) : ' ';
                four[i / 4] = four[i / 4] << 8 | c & 255;
            }
            x.feed(four[0], four[1], four[2], four[3], four[4]);
        }
    }

    static int slip(ErrataLand x, String text) {
        feed(x, text);
        return x.slip(text.length());
    }

    static int years(ErrataLand x, String text) {
        feed(x, text);
        return x.years(text.length());
    }

    static ErrataLand land(String slip) {
        ErrataLand made = new ErrataLand();
        if (slip(made, slip) == ErrataLand.NONE) {
            throw new IllegalArgumentException("a slip that is not taken: " + slip);
        }
        return made;
    }

    /** A tray of just these numbers, of 16 bits each. */
    static void fill(ErrataLand x, int tray, int... numbers) {
        x.tray(tray, 1, numbers.length);
        for (int i = 0; i < numbers.length; i++) {
            x.write(tray, i, numbers[i]);
        }
    }

    /** The first numbers of a tray as one decimal number behind a 1, so that a row is compared at once. */
    static long digits(ErrataLand x, int tray, int many) {
        long made = 1;
        for (int i = 0; i < many; i++) {
            made = made * 10 + x.read(tray, i);
        }
        return made;
    }
}
