import java.lang.reflect.InvocationTargetException;
import java.lang.reflect.Method;
import java.util.Arrays;
import java.util.Comparator;

/** No call throws, for any arguments in any state; the same calls give the same answers. */
public final class AnyCallTest {
    private static final int[] EDGES = {-1, 0, 1, 2, 3, 4, 5, 6, 7, 8, 9, 10, 11, 12, 14, 15, 20, 25, 30, 35, 36, 49, 60, 61,
        63, 64, 99, 100, 101, -2, -3, Integer.MAX_VALUE, Integer.MIN_VALUE, Integer.MAX_VALUE - 9, Integer.MIN_VALUE + 9};
    private static final String[] WORDS = {"size", "wet", "foot", "walk", "carry", "feet", "hands", "rolled", "rain",
        "errand", "sign", "sole", ";", ";", ";", "?", "\n", "123"};

    public static void main(String[] args) throws ReflectiveOperationException {
        int runs = args.length > 0 ? Integer.parseInt(args[0]) : 300;
        for (int seed = 1; seed <= runs; seed++) {
            long first = play(seed);
            Check.due("the same calls again, seed " + seed, first, play(seed));
        }
        Check.close();
    }

    private static long play(int seed) throws ReflectiveOperationException {
        Dice dice = new Dice(seed);
        Method[] methods = ClayPrints.class.getDeclaredMethods();
        methods = Arrays.stream(methods).filter(m -> java.lang.reflect.Modifier.isPublic(m.getModifiers()))
            .sorted(Comparator.comparing(Method::getName)).toArray(Method[]::new);
        ClayPrints x = new ClayPrints();
        long sum = 0;
        // Behind its 512th call nothing is promised about an object; a text takes 32 at most.
        for (int call = 0; call < 480; call++) {
            if (dice.once(8)) {
                String text = text(dice);
                Check.put(x, text);
                call += (text.length() + 19) / 20 + 1;
                sum = sum * 31 + x.text(dice.below(2), dice.once(2) ? -1 : dice.below(2));
            } else {
                sum = sum * 31 + answer(x, methods[dice.below(methods.length)], dice, seed);
            }
        }
        return sum;
    }

    private static long answer(ClayPrints x, Method method, Dice dice, int seed) throws ReflectiveOperationException {
        Object[] values = new Object[method.getParameterCount()];
        for (int i = 0; i < values.length; i++) {
            boolean bool = method.getParameterTypes()[i] == boolean.class;
            values[i] = bool ? (Object) dice.once(2) : (Object) EDGES[dice.below(dice.once(3) ? EDGES.length : i < 2 ? 3 : 12)];
        }
        try {
            Object got = method.invoke(x, values);
            return got instanceof Boolean b ? (b ? 1 : 0) : ((Number) got).longValue();
        } catch (InvocationTargetException e) {
            Check.due("seed " + seed + ": " + method.getName() + Arrays.toString(values) + " threw " + e.getCause(), 0, 1);
            return 0;
        }
    }

    private static String text(Dice dice) {
        if (dice.once(3)) {
            return soup(dice);
        }
        StringBuilder text = new StringBuilder();
        boolean reading = dice.once(3);
        for (int line = dice.below(12); line > 0; line--) {
            text.append(reading ? sign(dice) : line(dice));
        }
        return text.length() > 600 ? "" : text.toString();
    }

    private static String sign(Dice dice) {
        return "sign " + dice.below(9) + " " + dice.below(2) + " " + dice.below(2) + " " + dice.below(4) + " "
            + dice.from(1, 12) + ";";
    }

    private static String line(Dice dice) {
        switch (dice.below(8)) {
            case 0: return "size " + dice.from(2, 8) + " " + dice.from(2, 8) + ";";
            case 1: return "walk 0 " + dice.below(4) + " " + dice.below(9) + " " + dice.below(4) + " " + dice.below(4) + ";foot 0 1 1 0;";
            case 2: return "carry 0 1;foot 1 1 1 0;foot 0 1 1 0;";
            case 3: return "errand 0 " + dice.below(9) + " " + dice.below(9) + ";foot 1 2 3 1;";
            case 4: return (dice.once(2) ? "hands" : "rolled") + " 0;foot 1 2 3 1;";
            case 5: return "rain " + dice.below(99) + ";";
            default: return "foot " + dice.below(3) + " " + dice.from(1, 3) + " " + dice.from(1, 9) + " " + dice.below(3) + ";";
        }
    }

    private static String soup(Dice dice) {
        StringBuilder text = new StringBuilder();
        for (int i = dice.below(30); i > 0; i--) {
            text.append(dice.once(2) ? String.valueOf(dice.below(70)) : WORDS[dice.below(WORDS.length)]);
            text.append(dice.once(4) ? "" : " ");
        }
        return text.toString();
    }
}
