import java.lang.reflect.InvocationTargetException;
import java.lang.reflect.Method;
import java.lang.reflect.Modifier;
import java.util.Arrays;

/** Every call with numbers at and beyond every bound, one at a time and two together: none throws, and each is the model's. */
public final class ArgumentsTest {
    private static final Check CHECK = new Check("arguments");
    private static final int LEAST = Integer.MIN_VALUE;
    private static final int MOST = Integer.MAX_VALUE;
    private static final int[] EDGES = {LEAST, LEAST + 1, -97, -12, -2, -1, 0, 1, 2, 3, 4, 5, 6, 7, 8, 9, 11, 12, 13, 14, 15,
        16, 17, 31, 32, 33, 47, 48, 49, 63, 64, 95, 96, 97, 191, 192, 193, 255, 256, 380, 381, 400, 401, 999, 1000, 4095,
        4096, 9999, 10000, 1 << 30, MOST - 1, MOST};
    private static final int[] FEW_EDGES = {LEAST, -1, 0, 1, 2, 12, 96, 193, MOST};
    private static final int CALLS_OF_ONE = 400;

    private final String[] texts;
    private SleepWaves waves;
    private Model model;
    private int calls;

    /** Texts that are told first; those that begin with sleep or wake are laws. */
    private ArgumentsTest(String... texts) {
        this.texts = texts;
        renew();
    }

    private void renew() {
        waves = new SleepWaves();
        model = new Model();
        calls = 0;
        for (String text : texts) {
            boolean isLaw = text.startsWith("sleep") || text.startsWith("wake");
            Check.feed(waves, text);
            for (int at = 0; at < text.length(); at += 20) {
                int[] n = new int[5];
                for (int i = 0; i < 20; i++) {
                    n[i / 4] = n[i / 4] << 8 | (at + i < text.length() ? text.charAt(at + i) : 0);
                }
                model.feed(n[0], n[1], n[2], n[3], n[4]);
            }
            model.end(text.length());
            CHECK.due(text, isLaw ? model.law() : model.barracks(), isLaw ? waves.law() : waves.barracks());
        }
    }

    private static Object[] boxed(Method method, int[] arguments) {
        Object[] boxed = new Object[arguments.length];
        for (int i = 0; i < boxed.length; i++) {
            boolean isFlag = method.getParameterTypes()[i] == boolean.class;
            boxed[i] = isFlag ? (Object) (arguments[i] % 2 != 0) : (Object) arguments[i];
        }
        return boxed;
    }

    private static long answer(Object of, Method method, int[] arguments) throws IllegalAccessException {
        try {
            Object answer = method.invoke(of, boxed(method, arguments));
            return answer instanceof Boolean ? (Boolean) answer ? 1 : 0 : (Integer) answer;
        } catch (InvocationTargetException e) {
            e.getCause().printStackTrace(System.out);
            return Long.MIN_VALUE;
        }
    }

    private void call(Method method, int... arguments) throws ReflectiveOperationException {
        if (calls == CALLS_OF_ONE) {
            renew();
        }
        calls++;
        Method plain = Model.class.getDeclaredMethod(method.getName(), method.getParameterTypes());
        CHECK.due(method.getName() + Arrays.toString(arguments), answer(model, plain, arguments),
            answer(waves, method, arguments));
    }

    private void everyArgument(Method method) throws ReflectiveOperationException {
        int many = method.getParameterCount();
        for (int i = 0; i < many; i++) {
            for (int edge : EDGES) {
                int[] arguments = new int[many];
                Arrays.fill(arguments, 1, many, 1);
                arguments[i] = edge;
                call(method, arguments);
            }
            for (int j = 0; j < i; j++) {
                for (int k = 0; k < FEW_EDGES.length * FEW_EDGES.length; k++) {
                    int[] arguments = new int[many];
                    Arrays.fill(arguments, 1, many, 1);
                    arguments[i] = FEW_EDGES[k / FEW_EDGES.length];
                    arguments[j] = FEW_EDGES[k % FEW_EDGES.length];
                    call(method, arguments);
                }
            }
        }
        if (many == 0) {
            call(method);
        }
    }

    private void all() throws ReflectiveOperationException {
        Method[] methods = SleepWaves.class.getDeclaredMethods();
        Arrays.sort(methods, (a, b) -> a.getName().compareTo(b.getName()));
        for (Method method : methods) {
            if (Modifier.isPublic(method.getModifiers())) {
                everyArgument(method);
            }
        }
    }

    public static void main(String[] args) throws ReflectiveOperationException {
        String full = Check.times(12, "company 99 0 0 100") + ";" + Check.times(8, "bell 1 1") + ";duty 11 0 95;watch 1200";
        String busy = "company 9 0 0 50;company 8 0 0 50;company 7 1 1 0;bell 1 1;bell 2 2;duty 2 9 9;watch 17";
        String[] laws = {"sleep tired>3;wake tired=0", "sleep 1=1", "wake 1=0", "sleep bell=1;wake long>5",
            "sleep now%2=company", "sleep up>9;wake up<9"};
        new ArgumentsTest().all();
        new ArgumentsTest("watch 1", laws[1]).all();
        new ArgumentsTest("company 1 0 0 0", laws[0]).all();
        new ArgumentsTest(busy, laws[0], laws[3]).all();
        new ArgumentsTest(full, laws[0], laws[1], laws[2], laws[3], laws[4], laws[5]).all();
        CHECK.end();
    }
}
