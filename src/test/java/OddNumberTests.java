import java.lang.reflect.InvocationTargetException;
import java.lang.reflect.Method;
import java.lang.reflect.Modifier;
import java.util.Arrays;

/**
 * Promises 2 to 40: no call throws, whatever its numbers are, and however many of them are odd at once; each answer is
 * that of the model, by objects that are new, that hold something, and that are full.
 */
public final class OddNumberTests {
    /** The more numbers a call is given, the fewer of these are tried for each: from the first one on. */
    private static final int[] NUMBERS = {
        Integer.MIN_VALUE, -1, 0, 1, Integer.MAX_VALUE, 2, 120, 105, 60, 11, 47, 5, -100, 48, 211, 747, 99999, 30, 7018,
        Integer.MIN_VALUE + 1, Integer.MAX_VALUE - 1, -47, 100, 4747, 5020, 1000000000,
    };
    private static final int[] MANY_OF = {0, 26, 26, 26, 12, 7};
    private static final int CALLS = 512;

    private AcrossOnFoot x;
    private Model model;
    private int calls = 0;

    private OddNumberTests() {
    }

    public static void main(String[] args) {
        for (int held = 0; held <= 2; held++) {
            for (Method method : AcrossOnFoot.class.getDeclaredMethods()) {
                if (Modifier.isPublic(method.getModifiers())) {
                    new OddNumberTests().callByAll(method, held);
                }
            }
        }
        Due.end();
    }

    private void callByAll(Method method, int held) {
        int numbers = method.getParameterCount();
        int each = MANY_OF[numbers];
        int all = 1;
        for (int k = 0; k < numbers; k++) {
            all *= each;
        }
        calls = CALLS;
        for (int drawn = 0; drawn < all; drawn++) {
            if (calls >= CALLS) {
                make(held);
            }
            int[] given = new int[numbers];
            int rest = drawn;
            for (int k = 0; k < numbers; k++) {
                given[k] = NUMBERS[rest % each];
                rest /= each;
            }
            call(method.getName(), given);
        }
    }

    // ---- both at once

    private void call(String name, int... given) {
        calls++;
        String call = name + Arrays.toString(given) + ", call " + calls;
        Due.is(call, answer(x, name, given), answer(model, name, given));
    }

    private static long answer(Object asked, String name, int... given) {
        Class<?>[] types = new Class<?>[given.length];
        Object[] numbers = new Object[given.length];
        for (int k = 0; k < given.length; k++) {
            boolean isLong = name.equals("put") && k == 2;
            types[k] = isLong ? long.class : int.class;
            numbers[k] = isLong ? (Object) (long) given[k] : (Object) given[k];
        }
        try {
            return ((Number) asked.getClass().getDeclaredMethod(name, types).invoke(asked, numbers)).longValue();
        } catch (InvocationTargetException e) {
            Due.holds(name + Arrays.toString(given) + " answers, and throws no " + e.getCause(), false);
            return 0;
        } catch (ReflectiveOperationException e) {
            throw new IllegalStateException(e);
        }
    }

    private void feed(String text) {
        for (int from = 0; from < text.length(); from += 4) {
            call("feed", Due.many(text, from), Due.packed(text, from));
        }
    }

    private void make(int held) {
        x = new AcrossOnFoot();
        model = new Model();
        calls = 0;
        if (held >= 1) {
            makeSome();
        }
        if (held >= 2) {
            makeFull();
        }
    }

    private void makeSome() {
        for (String place : new String[] {"5,6,2;9,4,1;3,12,0/7", "8,8,4/2"}) {
            feed(place);
            call("place");
        }
        for (String law : new String[] {"h/4-8+r-i", "h%2?7;-20"}) {
            feed(law);
            call("law");
        }
        call("force", 0);
        call("person", 7018, 420);
        call("person", 5010, 905);
        call("person", 12022, 0);
        call("notch", 3, 5);
        call("mend", 0, 1, 0, 8);
        call("set", 2, 1, 6);
        call("undo");
        for (int kind = 7; kind >= 0; kind--) {
            call("body", kind);
        }
        call("keep", 0, 2);
        for (int sort = 0; sort <= 4; sort++) {
            call("row", sort + 1, sort, 12 - sort);
            call("put", sort + 1, 1, 47);
        }
        call("act", 2, 3, 5);
        feed("h+4");
    }

    private void makeFull() {
        for (int n = 2; n < 6; n++) {
            call("law");
            feed(n + "," + n + ",5/3");
            call("place");
            feed("12-h*" + n);
        }
        call("law");
        for (int n = 3; n < 8; n++) {
            call("person", 5018 + 100 * n, 105 * n);
        }
        for (int n = 4; n < 24; n++) {
            call("notch", n, n);
        }
        for (int n = 8; n < 50; n++) {
            call("body", n % 8);
        }
        for (int n = 0; n < 40; n++) {
            call("mend", 0, 0, 0, 1 + n % 30);
        }
        call("row", 1, 0, 60);
        for (int n = 0; n < 30; n++) {
            call("feed", 4, 'h');
        }
    }
}
