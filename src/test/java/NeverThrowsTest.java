import java.lang.reflect.InvocationTargetException;
import java.lang.reflect.Method;
import java.lang.reflect.Modifier;
import java.util.Random;

/** No call may ever throw: all of the face, with the strangest arguments, in states that calls lead to. */
public final class NeverThrowsTest {
    private static final Check CHECK = new Check("NeverThrowsTest");
    private static final long[] STRANGE = {Long.MIN_VALUE, Integer.MIN_VALUE, -41, -1, 0, 1, 2, 3, 4, 5, 7, 8, 39, 40,
        41, 99, 3839, 3840, 0x706c6174, 0x3b3b3b3b, Integer.MAX_VALUE, Long.MAX_VALUE};
    private static final String[] TEXTS = {"plate heat 0;",
        "plate heat 9;cake 5;cake 4 up;cake 3;cake 2 up;cake 1;",
        "plate heat 1;cake 2;cake 1;cake 3 up;may:many>heat or up=1;habit:0-999*999*top+heat;",
        "plate heat 1;cake 2;cake 4;cake 1;cake 3 up;may:1=2;"};

    public static void main(String[] args) throws IllegalAccessException {
        Random random = new Random(1);
        for (int run = 0; run < 60; run++) {
            GriddleTurn x = new GriddleTurn();
            if (run % 5 < 4) {
                Check.tell(x, TEXTS[run % 5]);
            }
            for (int tray = 0; tray < 4; tray++) {
                x.numbers(tray, tray, random.nextInt(10));
                x.write(tray, 0, random.nextInt(6));
                x.write(tray, 1, random.nextLong());
            }
            for (Method method : GriddleTurn.class.getDeclaredMethods()) {
                if (Modifier.isPublic(method.getModifiers())) {
                    for (int i = 0; i < 11; i++) {
                        call(x, method, random);
                    }
                }
            }
        }
        CHECK.end();
    }

    private static void call(GriddleTurn x, Method method, Random random) throws IllegalAccessException {
        Class<?>[] types = method.getParameterTypes();
        Object[] told = new Object[types.length];
        for (int i = 0; i < told.length; i++) {
            long v = random.nextInt(3) == 0 ? STRANGE[random.nextInt(STRANGE.length)] : random.nextInt(5);
            if (types[i] == int.class) {
                told[i] = (int) v;
            } else {
                told[i] = v;
            }
        }
        try {
            method.invoke(x, told);
            CHECK.due(method.getName(), 0, 0);
        } catch (InvocationTargetException e) {
            CHECK.due(method.getName() + java.util.Arrays.toString(told) + " threw " + e.getCause(), 0, 1);
        }
    }
}
