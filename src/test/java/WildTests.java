import java.lang.reflect.InvocationTargetException;
import java.lang.reflect.Method;
import java.lang.reflect.Modifier;
import java.util.ArrayList;
import java.util.Comparator;
import java.util.List;
import java.util.Random;

/** No call throws, whatever its arguments and whatever came before it, behind the 512th call too. */
public final class WildTests {
    private static final int RUNS = 200;
    private static final int CALLS = 3000;
    private static final int[] WILD = {Integer.MIN_VALUE, Integer.MIN_VALUE + 1, -1000001, -300, -101, -100, -37, -36,
        -10, -2, -1, 0, 1, 2, 3, 4, 5, 6, 7, 8, 9, 10, 15, 16, 35, 36, 37, 99, 100, 101, 135, 136, 199, 200, 201, 235,
        236, 299, 300, 301, 335, 1 << 16, 1 << 30, Integer.MAX_VALUE - 1, Integer.MAX_VALUE};

    private static int wrong = 0;

    public static void main(String[] args) throws Exception {
        List<Method> face = new ArrayList<>();
        for (Method method : EtchBath.class.getDeclaredMethods()) {
            if (Modifier.isPublic(method.getModifiers())) {
                face.add(method);
            }
        }
        // The machine tells methods in any order; the runs shall be the same each time.
        face.sort(Comparator.comparing(Method::getName));
        for (int seed = 0; seed < RUNS; seed++) {
            run(face, new Random(seed), "seed " + seed);
        }
        System.out.println(wrong == 0 ? "WildTests: all as due" : "WildTests: " + wrong + " wrong");
        if (wrong != 0) {
            System.exit(1);
        }
    }

    private static void run(List<Method> face, Random random, String name) throws Exception {
        EtchBath x = new EtchBath();
        for (int i = 0; i < CALLS; i++) {
            Method method = face.get(random.nextInt(face.size()));
            Object[] arguments = new Object[method.getParameterCount()];
            for (int a = 0; a < arguments.length; a++) {
                arguments[a] = method.getParameterTypes()[a] == boolean.class
                    ? (Object) random.nextBoolean() : (Object) number(random);
            }
            try {
                int answer = (Integer) method.invoke(x, arguments);
                if (answer < -1000005 || answer < 0 && answer >= -1000000) {
                    wrong++;
                    System.out.println(name + ", call " + i + ": " + method.getName() + " answered " + answer);
                }
            } catch (InvocationTargetException thrown) {
                wrong++;
                System.out.println(name + ", call " + i + ": " + method.getName() + " threw " + thrown.getCause());
                return;
            }
        }
    }

    private static int number(Random random) {
        return random.nextInt(20) == 0 ? random.nextInt() : WILD[random.nextInt(WILD.length)];
    }
}
