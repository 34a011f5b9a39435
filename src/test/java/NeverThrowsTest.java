import java.lang.reflect.InvocationTargetException;
import java.lang.reflect.Method;
import java.lang.reflect.Modifier;
import java.util.ArrayList;
import java.util.Comparator;
import java.util.List;
import java.util.Random;

/** No call throws, whatever its numbers and whatever was called ahead, nor answers a code that the document has not. */
public final class NeverThrowsTest {
    private static final int RUNS = 500;
    private static final int CALLS = 450;
    private static final int[] FAR_OFF = {-1, -2, 12, 13, 22, 31, 32, 33, 40, 41, 64, 99, 900, 901, 1 << 16, 1 << 30,
        Integer.MIN_VALUE, Integer.MIN_VALUE + 1, Integer.MAX_VALUE, Integer.MAX_VALUE - 9};
    private static final String[] TEXTS = {"sheet 3 4;hand;hand habit 3;hand;hand;may:far<3 or near>1;odds:kind*9+near;",
        "sheet 1 1;hand;", "sheet 12 1;hand;hand;last 4;may:near<2;", "sheet 2 2;", "sheet 1 12;hand;drawn 3;odds:0;",
        "sheet 2 5;hand;hand;row 0 8 7 6 5 4;may:last=kind or last=9 or left<habit;", "hand;", "sheet 1 1;odds:((((((((1"};

    private final Random random;
    private final LastMark x = new LastMark();

    private NeverThrowsTest(int run) {
        random = new Random(1234567 + run);
    }

    public static void main(String[] args) throws IllegalAccessException {
        List<Method> calls = new ArrayList<>();
        for (Method m : LastMark.class.getDeclaredMethods()) {
            if (Modifier.isPublic(m.getModifiers())) {
                calls.add(m);
            }
        }
        calls.sort(Comparator.comparing(Method::getName));
        Checks.due("calls", calls.size(), 42);
        for (int run = 0; run < RUNS; run++) {
            new NeverThrowsTest(run).go(calls);
        }
        Checks.finish();
    }

    private void go(List<Method> calls) throws IllegalAccessException {
        for (int i = 0; i < CALLS; i++) {
            if (i % 90 == 3) {
                Checks.tell(x, TEXTS[random.nextInt(TEXTS.length)]);
            }
            Method m = calls.get(random.nextInt(calls.size()));
            if (!m.getName().equals("sheet") || random.nextInt(20) == 0) {
                answer(m);
            }
        }
    }

    private void answer(Method m) throws IllegalAccessException {
        Object[] numbers = new Object[m.getParameterCount()];
        StringBuilder told = new StringBuilder(m.getName());
        for (int i = 0; i < numbers.length; i++) {
            numbers[i] = m.getParameterTypes()[i] == long.class ? (Object) someLong() : (Object) someInt();
            told.append(' ').append(numbers[i]);
        }
        try {
            long got = ((Number) m.invoke(x, numbers)).longValue();
            boolean number = m.getName().equals("write");
            Checks.dueTrue(told + " answered " + got, number || got >= -7 || got <= -11 && got >= -13 || got <= -31 && got >= -34);
        } catch (InvocationTargetException e) {
            Checks.due(told + " threw " + e.getCause(), 1, 0);
        }
    }

    private int someInt() {
        switch (random.nextInt(12)) {
            case 0: return FAR_OFF[random.nextInt(FAR_OFF.length)];
            case 1: return random.nextInt();
            case 2: return random.nextInt(42);
            case 3: return 10 + random.nextInt(12);
            default: return random.nextInt(5);
        }
    }

    private long someLong() {
        switch (random.nextInt(4)) {
            case 0: return random.nextLong();
            case 1: return random.nextInt(900) - 50;
            default: return random.nextInt(13);
        }
    }
}
