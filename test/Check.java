import java.util.function.IntToLongFunction;

/** What the tests share: answers that are due, and texts put on the tape. */
final class Check {
    private static int made = 0;
    private static int wrong = 0;

    private Check() {
    }

    static void due(String call, long want, long got) {
        made++;
        if (got != want) {
            wrong++;
            System.out.println(call + " answered " + got + ", due is " + want);
        }
    }

    static void due(String call, boolean want, boolean got) {
        due(call, want ? 1 : 0, got ? 1 : 0);
    }

    /** The answers to a row of numbers, from one on. */
    static void dueRow(String call, int from, IntToLongFunction got, long... want) {
        for (int i = 0; i < want.length; i++) {
            due(call + " (" + (from + i) + ")", want[i], got.applyAsLong(from + i));
        }
    }

    /** One answer at several numbers. */
    static void dueAt(String call, long want, IntToLongFunction got, int... at) {
        for (int i : at) {
            due(call + " (" + i + ")", want, got.applyAsLong(i));
        }
    }

    /** What is refused: the numbers next to those that are in, and the farthest ones, also by tens that wrap around. */
    static void dueOut(String call, long want, IntToLongFunction got, int... next) {
        dueAt(call, want, got, next);
        dueAt(call, want, got, Integer.MIN_VALUE, Integer.MIN_VALUE + 9, Integer.MIN_VALUE + 10, Integer.MAX_VALUE);
    }

    static void put(ClayPrints x, String text) {
        byte[] bytes = new byte[(text.length() + 19) / 20 * 20];
        for (int i = 0; i < text.length(); i++) {
            bytes[i] = (byte) text.charAt(i);
        }
        for (int i = 0; i < bytes.length; i += 20) {
            x.feed(word(bytes, i), word(bytes, i + 4), word(bytes, i + 8), word(bytes, i + 12), word(bytes, i + 16));
        }
        x.end(text.length());
    }

    /** How many bytes the tape has; what it has stays. */
    static void dueTape(String call, int want, ClayPrints x) {
        due(call + ": no more bytes", -1, x.end(want + 1));
        due(call + ": bytes", want, x.end(want));
    }

    private static int word(byte[] bytes, int i) {
        return (bytes[i] & 255) << 24 | (bytes[i + 1] & 255) << 16 | (bytes[i + 2] & 255) << 8 | bytes[i + 3] & 255;
    }

    /** A new object's night 0. */
    static ClayPrints night(String text) {
        ClayPrints x = new ClayPrints();
        put(x, text);
        due("night: " + text, 0, x.text(0, -1));
        return x;
    }

    /** A new object's night 0 and reading 0. */
    static ClayPrints night(String text, String reading) {
        ClayPrints x = night(text);
        put(x, reading);
        due("reading: " + reading, 0, x.text(1, -1));
        return x;
    }

    /** Bits by their numbers. */
    static int bits(int... numbers) {
        int bits = 0;
        for (int number : numbers) {
            bits |= 1 << number;
        }
        return bits;
    }

    static void close() {
        System.out.println(made + " answers, " + wrong + " wrong");
        if (wrong != 0) {
            System.exit(1);
        }
    }
}
