import java.lang.reflect.InvocationTargetException;
import java.lang.reflect.Method;
import java.util.NoSuchElementException;

/** Every method with all kinds of far-off numbers, in a house, in a full one and in none: guest alone ever throws. */
public final class NeverThrowsTest {
    private static final int[] NUMBERS = {
        Integer.MIN_VALUE, -1000000, -2, -1, 0, 1, 2, 5, 6, 9, 60, 99, 240, 1000, Integer.MAX_VALUE};
    // An object is used for 512 calls; a full one is made by some 100.
    private static final int CALLS = 400;
    private static int wrong;
    private static int calls;

    public static void main(String[] args) throws IllegalAccessException {
        for (Method m : BottleBefore.class.getDeclaredMethods()) {
            if (java.lang.reflect.Modifier.isPublic(m.getModifiers())) {
                for (int kind = 0; kind < 3; kind++) {
                    tryAll(kind, m);
                }
            }
        }
        System.out.println(calls + " calls, " + wrong + " threw what they must not");
        if (wrong != 0) {
            System.exit(1);
        }
    }

    private static BottleBefore made(int kind) {
        return kind == 0 ? new BottleBefore() : kind == 1 ? Due.house("d;d;g") : full();
    }

    private static BottleBefore full() {
        BottleBefore x = Due.house("sb5w30j9;dq9p60;d;d;d;d;dq0p0;gl5m99h9;g;g;g;g;gm0h0");
        String deep = "y:!(!(!(q>1|h<2)))&[[[[[9999*9999]]]]]+m*n/[p-p]>0?q*9999*9999*9999-h;y:0-9999*9999-l";
        for (int i = 0; i < 4; i++) {
            Due.holding(x, deep);
            Due.tell(x, 2, "g0;m;h1;g9;m;m;m;m;m;m;m;m;m;m;m;m");
        }
        for (int i = 0; i < 11; i++) {
            x.seen(i % 6, i % 6, 9 * i, i % 7 - 1);
        }
        x.years(60, 7L);
        x.image();
        x.years(60, 8L);
        return x;
    }

    private static void tryAll(int kind, Method m) throws IllegalAccessException {
        int many = m.getParameterCount();
        int all = 1;
        for (int i = 0; i < Math.min(many, 3); i++) {
            all *= NUMBERS.length;
        }
        BottleBefore x = made(kind);
        for (int k = 0; k < all; k++) {
            if (k % CALLS == CALLS - 1) {
                x = made(kind);
            }
            Object[] args = new Object[many];
            int rest = k;
            for (int i = 0; i < many; i++) {
                int v = NUMBERS[(rest + 4 * (i / 3)) % NUMBERS.length];
                args[i] = m.getParameterTypes()[i] == long.class ? (Object) (long) v : (Object) v;
                rest /= NUMBERS.length;
            }
            tryOne(x, m, args);
        }
    }

    private static void tryOne(BottleBefore x, Method m, Object[] args) throws IllegalAccessException {
        calls++;
        try {
            m.invoke(x, args);
        } catch (InvocationTargetException e) {
            boolean due = m.getName().equals("guest") && e.getCause() instanceof NoSuchElementException;
            if (!due) {
                wrong++;
                System.out.println(m.getName() + java.util.Arrays.toString(args) + " threw " + e.getCause());
            }
        }
    }
}
