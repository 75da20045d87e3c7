import java.util.ArrayList;
import java.util.Arrays;
import java.util.List;

/** Promises 10 to 12 by spoilt texts: each token of a good one is left out, replaced, or has another one put ahead of it. */
public final class SpoiltTest {
    private static final String SLIP = "odds 4 ; word a ; word b ; word zz ; line 9 for a read b after zz insert a "
        + "delete a passim delete b ; line 10 for b read zz passim delete a ; line 11 ; person p at 9 says a b zz ; person q at 11 ;";
    private static final String FULL = "word a ; word b ; word c ; word d ; word e ; word f ; word g ; word h ; line 1 ; line 2 ; "
        + "line 3 ; line 4 ; line 5 ; line 6 ; line 7 ; line 8 delete a delete b delete c delete d ; "
        + "person p at 1 ; person q at 1 ; person r at 1 ; person s at 1 ; person t at 1 ; person u at 8 says a b c d e f g h ;";
    private static final String YEARS = "day 20 ; go p 10 ; lose 9 ; find 9 ; any ; when lost 9 ; any ; loop 99 ; when has q zz ; "
        + "stop ; end ; end ; end ; when long p < 8 ; end ; when long q = 0 ; day 1 ; end ;";
    private static final String STEPS = "loop 1 ; loop 2 ; loop 3 ; any ; any ; any ; any ; any ; any ; any ; any ; any ; any ; any ; "
        + "any ; any ; any ; end ; end ; end ; any ; any ; any ; any ; any ; any ; any ; any ; any ; any ; any ; any ; stop ;";
    private static final String POOL = "odds word line for read passim delete after insert person at says day go lose find any when "
        + "lost long has loop end stop ; < > = 0 1 8 9 11 16 17 20 21 59 99 100 999 1000 12345 a b zz p q n abcdefgh abcdefghi ! A";

    private static int texts;

    public static void main(String[] args) {
        boolean agree = spoil(true, SLIP) && spoil(true, FULL) && spoil(false, YEARS) && spoil(false, STEPS);
        System.out.println(agree ? texts + " spoilt texts are as the model says" : "that is not as the model says");
        if (!agree) {
            System.exit(1);
        }
    }

    private static boolean spoil(boolean slip, String good) {
        List<String> tokens = Arrays.asList(good.split(" "));
        for (int at = 0; at <= tokens.size(); at++) {
            List<String> left = new ArrayList<>(tokens.subList(0, at));
            if (!alike(slip, left)) {
                return false;
            }
            List<String> behind = tokens.subList(Math.min(at + 1, tokens.size()), tokens.size());
            List<String> gone = new ArrayList<>(left);
            gone.addAll(behind);
            if (!alike(slip, gone)) {
                return false;
            }
            for (String other : POOL.split(" ")) {
                List<String> changed = new ArrayList<>(left);
                changed.add(other);
                List<String> more = new ArrayList<>(changed);
                changed.addAll(behind);
                more.addAll(tokens.subList(at, tokens.size()));
                if (!alike(slip, changed) || !alike(slip, more)) {
                    return false;
                }
            }
        }
        return true;
    }

    private static boolean alike(boolean slip, List<String> tokens) {
        String text = String.join(" ", tokens);
        ErrataLand x = new ErrataLand();
        Model model = new Model();
        String[] all = slip ? new String[] {text} : new String[] {SLIP, text};
        boolean agree = true;
        for (int i = 0; i < all.length; i++) {
            Checks.feed(x, all[i]);
            for (int at = 0; at < all[i].length(); at++) {
                model.tape.add((int) all[i].charAt(at));
            }
            boolean isSlip = slip || i == 0;
            int n = all[i].length();
            int got = isSlip ? x.slip(n) : x.years(n);
            long want = model.call(isSlip ? "slip" : "years", n);
            agree &= got == want && x.status() == model.status && x.fault(0) == model.faultKind
                && x.fault(1) == model.faultPlace;
            for (int what = 0; what < 8; what++) {
                agree &= x.many(what) == model.call("many", what);
            }
        }
        texts++;
        if (!agree) {
            System.out.println("'" + text + "': fault " + x.fault(0) + " at " + x.fault(1) + ", the model says " + model.faultKind
                + " at " + model.faultPlace);
        }
        return agree;
    }
}
