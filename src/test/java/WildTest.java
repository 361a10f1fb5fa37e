import java.lang.reflect.InvocationTargetException;
import java.lang.reflect.Method;
import java.lang.reflect.Modifier;

/** LANGUAGE.md, rule 7: no call throws, whatever its arguments, in whatever state. */
public final class WildTest {
    private static final int[] WILD = {Integer.MIN_VALUE, Integer.MIN_VALUE + 1, -65536, -257, -9, -2, -1, 0, 1, 2, 3, 5, 8, 13,
        15, 16, 24, 31, 32, 33, 50, 51, 101, 200, 201, 255, 256, 581, 600, 601, 10000, 16777215, 16777216,
        Integer.MAX_VALUE - 1, Integer.MAX_VALUE};
    private static final String[] TEXTS = {"", "data 24; checks 8; pairs; word 15 16777215;", "data 4; checks 4; pairs;",
        "data 11; word 3 2047;"};
    private static int calls = 0;

    public static void main(String[] args) throws Exception {
        for (Method m : OddColumns.class.getDeclaredMethods()) {
            for (String text : TEXTS) {
                if (Modifier.isPublic(m.getModifiers())) {
                    callWith(busyWith(text), m, new Object[m.getParameterCount()], 0);
                }
            }
        }
        System.out.println("WildTest: " + calls + " calls, none threw");
    }

    private static OddColumns busyWith(String text) {
        OddColumns x = Sentences.busy();
        Sentences.give(x, text);
        x.stick(0, 0, 1);
        x.stick(15, 3, 1);
        x.stick(15, 4, 0);
        x.storm(1, 30, 0);
        x.image(1);
        x.write(2, 3);
        x.undo();
        return x;
    }

    private static void callWith(OddColumns x, Method m, Object[] given, int at) throws Exception {
        if (at == given.length) {
            calls++;
            try {
                m.invoke(x, given);
            } catch (InvocationTargetException e) {
                System.out.println(m.getName() + java.util.Arrays.toString(given) + " threw " + e.getCause());
                System.exit(1);
            }
        } else if (m.getParameterTypes()[at] == boolean.class) {
            for (boolean b : new boolean[] {true, false}) {
                given[at] = b;
                callWith(x, m, given, at + 1);
            }
        } else {
            // Five numbers are but bytes: a few of them will do.
            int step = given.length > 3 ? 11 : 1;
            for (int i = 0; i < WILD.length; i += step) {
                given[at] = WILD[i];
                callWith(x, m, given, at + 1);
            }
        }
    }
}
