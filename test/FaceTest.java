import java.io.IOException;
import java.lang.reflect.Array;
import java.lang.reflect.Constructor;
import java.lang.reflect.Field;
import java.lang.reflect.Method;
import java.lang.reflect.Modifier;
import java.nio.charset.StandardCharsets;
import java.nio.file.Files;
import java.nio.file.Path;
import java.util.IdentityHashMap;
import java.util.TreeSet;
import java.util.regex.Matcher;
import java.util.regex.Pattern;

/** The public face, and those rules of the language that can be seen without much reading. */
public final class FaceTest {
    private static final String[] FACE = {
        "int feed(int, int, int, int, int)", "int end(int)", "int text(int, int)", "int fault(int)", "int night(int, int)",
        "int person(int, int, int)", "int where(int, int, int)", "int print(int, int, int, int)",
        "int cell(int, int, int, int)", "int gait(int, int, int)", "int tax(int, int, int)", "long fair(int, int, boolean)",
        "int alone(int, int)", "int pays(int, int)", "int traps(int, int, int)", "int near(int, int, int, int)",
        "int way(int, int, int, int, int)", "int tour(int, int)", "int sign(int, int, int)", "int makers(int, int, int)",
        "int follows(int, int, int)", "int walks(int, int, int)", "int drawn(int, int, int, int)", "int dawn(int, int)",
        "int carried(int, int, int, boolean)", "int better(int, int, boolean)", "int thieves(int, int, int, int)",
        "int row(int, int, int)", "int count(int)", "boolean image(int)", "boolean again(int)",
    };
    private static final String[] NEVER = {"throw", "try", "catch", "synchronized", "assert", "instanceof", "static \\{",
        "->", "::", "Exact\\(", "\\.hashCode", "\\.toString", "System\\.(?!arraycopy)", "protected", "volatile", "float",
        "double", "Thread", "Random", "import (?!java\\.util\\.Arrays;)", "while \\(true", "for \\(;;"};

    public static void main(String[] args) throws IOException, IllegalAccessException {
        face();
        classesInside();
        words();
        room();
        madeAheadOfCalls();
        Check.close();
    }

    private static void face() {
        TreeSet<String> want = new TreeSet<>();
        for (String method : FACE) {
            want.add("public " + method);
        }
        TreeSet<String> got = new TreeSet<>();
        for (Method method : ClayPrints.class.getDeclaredMethods()) {
            if (!Modifier.isPrivate(method.getModifiers())) {
                StringBuilder types = new StringBuilder();
                for (Class<?> type : method.getParameterTypes()) {
                    types.append(types.length() == 0 ? "" : ", ").append(type);
                }
                got.add(Modifier.toString(method.getModifiers()) + " " + method.getReturnType() + " " + method.getName()
                    + "(" + types + ")");
            }
        }
        same("methods", want, got);
        TreeSet<String> fields = new TreeSet<>();
        for (Field field : ClayPrints.class.getDeclaredFields()) {
            if (!Modifier.isPrivate(field.getModifiers())) {
                fields.add(field.toString());
            }
        }
        same("fields", new TreeSet<>(java.util.List.of("public static final int ClayPrints.NONE")), fields);
        Constructor<?>[] made = ClayPrints.class.getDeclaredConstructors();
        Check.due("constructors", 1, made.length);
        Check.due("public constructor of nothing", 1, Modifier.isPublic(made[0].getModifiers()) ? 1 - made[0].getParameterCount() : 0);
        Check.due("public final", Modifier.PUBLIC | Modifier.FINAL, ClayPrints.class.getModifiers());
        Check.due("NONE", -1, ClayPrints.NONE);
    }

    private static void same(String name, TreeSet<String> want, TreeSet<String> got) {
        Check.due(name + ": " + got, true, want.equals(got));
    }

    private static void classesInside() {
        TreeSet<String> names = new TreeSet<>();
        for (String method : FACE) {
            names.add(method.replaceAll(".* (\\w+)\\(.*", "$1"));
        }
        Check.due("at most some twelve classes", true, ClayPrints.class.getDeclaredClasses().length < 12);
        for (Class<?> inside : ClayPrints.class.getDeclaredClasses()) {
            int modifiers = inside.getModifiers();
            Check.due(inside + " is static", true, Modifier.isStatic(modifiers));
            Check.due(inside + " is not public", true, (modifiers & (Modifier.PUBLIC | Modifier.PROTECTED)) == 0);
            int fields = 0;
            for (Field field : inside.getDeclaredFields()) {
                boolean constant = Modifier.isStatic(field.getModifiers());
                fields += constant ? 0 : 1;
                Check.due(field + " is final if static", true, !constant || Modifier.isFinal(field.getModifiers()));
            }
            Check.due(inside + " has some twenty fields at most", true, fields <= 20);
            for (Method method : inside.getDeclaredMethods()) {
                Check.due(method + " has a name of its own", false, names.contains(method.getName()));
                Check.due(method + " takes at most seven", true, method.getParameterCount() <= 7);
            }
        }
    }

    /** All objects of one run live in one room, so an object must be small. */
    private static void room() throws IllegalAccessException {
        int[] counts = new int[2];
        count(new ClayPrints(), new IdentityHashMap<>(), counts);
        Check.due("objects and arrays of a new object, " + counts[0], true, counts[0] < 600);
        Check.due("fields and elements of a new object, " + counts[1], true, counts[1] < 20000);
    }

    /** Objects and arrays, fields and elements. */
    private static void count(Object one, IdentityHashMap<Object, Object> seen, int[] counts) throws IllegalAccessException {
        if (one == null || seen.put(one, one) != null) {
            return;
        }
        counts[0]++;
        if (one.getClass().isArray()) {
            counts[1] += Array.getLength(one);
            for (int i = 0; i < Array.getLength(one) && !one.getClass().getComponentType().isPrimitive(); i++) {
                count(Array.get(one, i), seen, counts);
            }
            return;
        }
        for (Field field : one.getClass().getDeclaredFields()) {
            if (!Modifier.isStatic(field.getModifiers())) {
                counts[1]++;
                field.setAccessible(true);
                if (!field.getType().isPrimitive()) {
                    count(field.get(one), seen, counts);
                }
            }
        }
    }

    /** Nothing is made in a call: new stands in fields, and behind the elements of rows that a constructor fills. */
    private static void madeAheadOfCalls() throws IOException {
        for (String line : code().split("\n")) {
            boolean made = line.matches(".*\\bnew\\b.*");
            boolean ahead = line.matches(" +private final \\S+ \\w+ = new .*;| +\\w+\\[\\w\\] = new \\w+\\(\\);");
            Check.due("made ahead of calls:" + line, true, !made || ahead);
        }
    }

    private static String text() throws IOException {
        return Files.readString(Path.of("src/main/java/ClayPrints.java"), StandardCharsets.ISO_8859_1);
    }

    /** Without comments, and with no words in its texts. */
    private static String code() throws IOException {
        return text().replaceAll("(?s)/\\*.*?\\*/", "").replaceAll("//[^\n]*", "").replaceAll("\"[^\"\n]*\"", "\"\"");
    }

    private static void words() throws IOException {
        String text = text();
        String code = code();
        for (String never : NEVER) {
            String pattern = Character.isLetter(never.charAt(0)) ? "\\b" + never + (never.matches("\\w+") ? "\\b" : "") : never;
            Matcher matcher = Pattern.compile(pattern).matcher(code);
            Check.due("no " + never, false, matcher.find());
        }
        for (int i = 0; i < text.length(); i++) {
            if (text.charAt(i) > 126) {
                Check.due("a sign above 126 at " + i, 0, 1);
            }
        }
    }
}
