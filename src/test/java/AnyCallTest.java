import java.lang.reflect.InvocationTargetException;
import java.lang.reflect.Method;
import java.lang.reflect.Modifier;
import java.util.Arrays;
import java.util.Comparator;
import java.util.List;
import java.util.Random;

/**
 * Any call with any arguments in any state: it answers, or throws exactly one of the exceptions that the document names
 * for it, by a throw statement of its own. The seeds are fixed, so every run makes the same calls.
 */
final class AnyCallTest {
    private static final int OBJECTS = 1500;
    private static final int CALLS = 512;
    private static final int[] NUMBERS = {0, 1, 2, 3, 4, 5, 6, 7, 8, 9, 10, 20, 21, 30, 31, 59, 60, 61, 98, 99, 100,
        598, 601, 999, 1000, -1, -2, 65536, Integer.MIN_VALUE, Integer.MAX_VALUE};
    private static final String[] WORDS = {"start ", "leg ", "gate ", "limit ", "width ", "run", "walk ", "fault ",
        "retire", ";", ",", "=", "-", "+", "1", "7", "50"};

    private AnyCallTest() {
    }

    static void run() throws Exception {
        List<Method> face = Arrays.stream(SheepdogTrial.class.getDeclaredMethods())
                .filter(method -> Modifier.isPublic(method.getModifiers()))
                .sorted(Comparator.comparing(Method::getName)).toList();
        for (int seed = 0; seed < OBJECTS; seed++) {
            Random random = new Random(seed);
            SheepdogTrial trial = new SheepdogTrial();
            int calls = 0;
            while (calls < CALLS) {
                calls += prepare(trial, random, CALLS - calls - 1);
                call(trial, face.get(random.nextInt(face.size())), random);
                calls++;
            }
        }
    }

    // Often builds a course, starts runs and types words, so that all states
    // are met; answers how many calls were made.
    private static int prepare(SheepdogTrial trial, Random random, int most) {
        int kind = random.nextInt(10);
        if (kind == 0 && most >= 2) {
            Check.outcome(() -> trial.addLeg(random.nextInt(100), random.nextInt(100), 9));
            Check.outcome(() -> trial.addGate(random.nextInt(6), 5, 5, random.nextInt(100), 6));
            return 2;
        }
        if (kind == 1 && most >= 2) {
            Check.outcome(trial::startRun);
            Check.outcome(() -> trial.walk(random.nextInt(100), random.nextInt(100), 1));
            return 2;
        }
        String word = WORDS[random.nextInt(WORDS.length)];
        if (kind == 2 && most >= word.length()) {
            for (char character : word.toCharArray()) {
                Check.outcome(() -> trial.type(character));
            }
            return word.length();
        }
        return 0;
    }

    private static void call(SheepdogTrial trial, Method method, Random random) throws Exception {
        Object[] arguments = new Object[method.getParameterCount()];
        for (int i = 0; i < arguments.length; i++) {
            int number = NUMBERS[random.nextInt(NUMBERS.length)];
            arguments[i] = method.getParameterTypes()[i] == char.class ? (Object) (char) number : (Object) number;
        }
        try {
            method.invoke(trial, arguments);
        } catch (InvocationTargetException e) {
            Throwable thrown = e.getCause();
            String name = method.getName() + Arrays.toString(arguments);
            Check.isTrue(name + " may throw " + thrown,
                    Arrays.asList(method.getExceptionTypes()).contains(thrown.getClass()));
            Check.isFalse(name + " divides by zero", "/ by zero".equals(thrown.getMessage()));
        }
    }
}
