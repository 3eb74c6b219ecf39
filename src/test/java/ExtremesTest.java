import java.lang.reflect.InvocationTargetException;
import java.lang.reflect.Method;
import java.lang.reflect.Modifier;
import java.util.Arrays;

/** Every call with every mixture of numbers at and beyond the bounds: none throws, and all answer as the Model. */
public final class ExtremesTest {
    private static final int[] NUMBERS = {Integer.MIN_VALUE, Integer.MIN_VALUE + 9, Integer.MIN_VALUE + 10, -21, -1, 0, 1, 2,
        3, 4, 5, 6, 7, 9, 10, 11, 13, 14, 19, 20, 21, 40, 41, 60, 61, 99, 100, 127, 128, 256, 65537,
        Integer.MAX_VALUE - 19, Integer.MAX_VALUE};
    /** Of four numbers at once there would be too many mixtures. */
    private static final int[] FEWER = {Integer.MIN_VALUE, -1, 0, 1, 2, 3, 4, 19, 20, 21, 40, Integer.MAX_VALUE - 19,
        Integer.MAX_VALUE};
    private static final String[] HOUSES = {"", "iron 0 0;",
        "wood 9 9;stone 15 8;iron 3 28;landing 0 0;lodger 2 1 5 3;lodger 4 0 0 2;lodger 1 1 0 3;hold 40;",
        "wood 9 9;wood 0 0;wood 1 1;stone 5 5;stone 9 0;iron 0 0;iron 8 8;landing 0 0;landing 0 29;wood 3 3;lodger 4 0 0 9;"};
    /** An object is used for 512 calls; its house and its SHEETS take up to 140 of them. */
    private static final int MOST_CALLS = 370;
    private static int wrong = 0;
    private static long asked = 0;

    private final String house;
    private RankStairs program;
    private Model model;
    private int calls;

    private ExtremesTest(String house) {
        this.house = house;
        begin();
    }

    public static void main(String[] args) throws ReflectiveOperationException {
        for (String house : HOUSES) {
            for (Method m : RankStairs.class.getDeclaredMethods()) {
                if (Modifier.isPublic(m.getModifiers())) {
                    new ExtremesTest(house).tryAll(m, new Object[m.getParameterCount()], 0);
                }
            }
        }
        System.out.println(asked + " calls at and beyond the bounds, " + wrong + " not as the model");
        if (wrong != 0) {
            System.exit(1);
        }
    }

    private void begin() {
        program = new RankStairs();
        model = new Model();
        calls = 0;
        for (char c : house.toCharArray()) {
            program.feed(c);
            model.feed(c);
        }
        program.text();
        model.text();
        for (int k = 0; k < 3; k++) {
            program.sheet(k, k, 20);
            model.sheet(k, k, 20);
        }
        program.lay(1, 3, 9);
        model.lay(1, 3, 9);
    }

    private void tryAll(Method m, Object[] a, int k) throws ReflectiveOperationException {
        if (k == a.length) {
            tryOne(m, a);
            return;
        }
        for (int v : a.length > 3 ? FEWER : NUMBERS) {
            a[k] = v;
            tryAll(m, a, k + 1);
        }
    }

    private void tryOne(Method m, Object[] a) throws ReflectiveOperationException {
        if (calls >= MOST_CALLS) {
            begin();
        }
        calls++;
        asked++;
        Object got;
        try {
            got = m.invoke(program, a);
        } catch (InvocationTargetException e) {
            got = e.getCause();
        }
        Object want = Model.class.getDeclaredMethod(m.getName(), m.getParameterTypes()).invoke(model, a);
        if (!want.equals(got)) {
            wrong++;
            System.out.println("in " + house + ": " + m.getName() + Arrays.toString(a) + " answered " + got + ", due is " + want);
        }
    }
}
