import java.lang.reflect.Method;
import java.lang.reflect.Modifier;
import java.util.Random;

/** No call throws or fails to end, whatever it is told and whatever came ahead. */
public final class ExtremesTest {
    private static final int[] VALUES = {Integer.MIN_VALUE, Integer.MIN_VALUE + 1, -65536, -300, -9, -2, -1, 0, 1, 2, 3, 4, 5, 6, 7, 8,
        9, 16, 17, 20, 21, 31, 32, 33, 59, 60, 61, 99, 100, 255, 256, 300, 301, 500, 501, 880, 900, 901, 999, 1000, 9999, 10000,
        65535, 1 << 30, Integer.MAX_VALUE - 1, Integer.MAX_VALUE};
    private static final String SLIP = "word a;word b;word c;word d;word e;word f;word g;word h;line 1 for a read b after b insert c;"
        + "line 2 delete a delete b passim;line 999 after a insert a after a insert b after b insert a after c insert d;line 500;"
        + "person p at 1 says a b c d e f g h;person q at 999 says a;person r at 2;";
    private static final String YEARS = "loop 99;loop 99;any;day 20;when long p > 4;lose 1;end;find 1;end;end;";

    public static void main(String[] args) throws Exception {
        Random random = new Random(4711);
        int calls = 0;
        for (int run = 0; run < 300; run++) {
            ErrataLand x = new ErrataLand();
            if (run % 3 != 0) {
                Checks.slip(x, SLIP);
            }
            if (run % 3 == 2) {
                Checks.years(x, YEARS);
            }
            for (int i = 0; i < 500; i++) {
                Method[] methods = ErrataLand.class.getDeclaredMethods();
                Method method = methods[random.nextInt(methods.length)];
                if (Modifier.isPublic(method.getModifiers())) {
                    call(x, method, random);
                    calls++;
                }
            }
        }
        System.out.println(calls + " calls came back");
    }

    private static void call(ErrataLand x, Method method, Random random) throws Exception {
        Class<?>[] types = method.getParameterTypes();
        Object[] given = new Object[types.length];
        boolean small = random.nextBoolean();
        for (int i = 0; i < types.length; i++) {
            int v = small ? random.nextInt(5) : VALUES[random.nextInt(VALUES.length)];
            given[i] = types[i] == boolean.class ? (Object) random.nextBoolean() : types[i] == long.class ? (Object) (long) v : (Object) v;
        }
        method.invoke(x, given);
    }
}
