import java.util.ArrayList;
import java.util.List;
import java.util.Map;
import java.util.regex.Matcher;
import java.util.regex.Pattern;

/** Promises 4 and 5 on many texts, sound and spoilt, against a second reading of how a text goes. */
public final class TextModelTest {
    private record Token(String text, int place) {
        boolean isNumber() {
            return text.matches("[0-9]{1,2}");
        }
    }

    /** By word the ranges of its numbers; what goes on for ever is marked by a star. */
    private static final Map<String, String> NIGHT = Map.of("size", "2-8 2-8", "wet", "0-9", "foot", "0-5 1-3 1-9 0-2",
        "walk", "0-5 0-63 0-60 0-3 *", "carry", "0-5 0-5", "feet", "0-5", "hands", "0-5", "rolled", "0-5", "rain", "0-99",
        "errand", "0-5 0-63 0-63");
    private static final Map<String, String> READING = Map.of("sign", "0-63 0-6 0-1 0-3 1-99");

    public static void main(String[] args) {
        int runs = args.length > 0 ? Integer.parseInt(args[0]) : 20000;
        int[] kinds = new int[5];
        for (int seed = 1; seed <= runs; seed++) {
            Dice dice = new Dice(seed);
            int sort = dice.once(4) ? 1 : 0;
            String text = spoilt(dice, drawn(dice, sort == 0 ? NIGHT : READING));
            if (text.length() <= 600) {
                kinds[compare(sort, text)]++;
            }
        }
        for (int kind = 0; kind < kinds.length; kind++) {
            Check.due("FAULT " + kind + " is often seen", true, kinds[kind] > runs / 200);
        }
        Check.close();
    }

    private static int compare(int sort, String text) {
        int[] want = fault(text, sort == 0 ? NIGHT : READING);
        ClayPrints x = new ClayPrints();
        Check.put(x, text);
        String call = "text " + sort + " " + text.replace("\n", "\\n");
        Check.due(call, want[0] == 0 ? 0 : -1, x.text(sort, -1));
        Check.due("FAULT of " + call, want[0], x.fault(0));
        Check.due("place of " + call, want[1], x.fault(1));
        return want[0];
    }

    private static String drawn(Dice dice, Map<String, String> words) {
        StringBuilder text = new StringBuilder();
        List<String> names = new ArrayList<>(new java.util.TreeSet<>(words.keySet()));
        int most = dice.once(6) ? 16 : 6;
        boolean many = dice.once(4);
        for (int line = dice.below(most); line > 0; line--) {
            String word = many ? names.get(names.size() > 1 ? 1 + 2 * dice.below(2) : 0) : names.get(dice.below(names.size()));
            text.append(word);
            String last = "0-3";
            for (String range : words.get(word).split(" ")) {
                int times = range.equals("*") ? dice.once(6) ? dice.from(22, 27) : dice.below(4) : 1;
                last = range.equals("*") ? last : range;
                for (int i = 0; i < times; i++) {
                    String[] ends = last.split("-");
                    int low = Integer.parseInt(ends[0]);
                    int high = Math.min(Integer.parseInt(ends[1]), low + 30);
                    int number = dice.once(60) ? dice.below(100) : dice.once(3) ? dice.from(low, high) : low;
                    text.append(dice.once(9) ? "\n" : " ").append(number);
                }
            }
            text.append(dice.once(3) ? " ;" : ";");
        }
        return text.toString();
    }

    private static String spoilt(Dice dice, String text) {
        StringBuilder spoilt = new StringBuilder(dice.once(2) ? "foot 0 1 1 0;" : "foot 1 1 1 0;".repeat(5)).append(text);
        if (text.startsWith("sign") || dice.once(12)) {
            spoilt.delete(0, spoilt.length() - text.length());
        }
        for (int i = dice.once(3) ? dice.from(1, 2) : 0; i > 0 && spoilt.length() > 0; i--) {
            int at = dice.below(spoilt.length());
            switch (dice.below(4)) {
                case 0: spoilt.deleteCharAt(at); break;
                case 1: spoilt.insert(at, "0;w 9\n".charAt(dice.below(6))); break;
                case 2: spoilt.setCharAt(at, (char) dice.below(256)); break;
                default: spoilt.setLength(at); break;
            }
        }
        return spoilt.toString();
    }

    /** The FAULT and its place. */
    private static int[] fault(String text, Map<String, String> words) {
        List<Token> tokens = new ArrayList<>();
        Matcher matcher = Pattern.compile("[a-z]+|[0-9]+|[^ \n]").matcher(text);
        while (matcher.find()) {
            tokens.add(new Token(matcher.group(), matcher.start()));
        }
        tokens.add(new Token("", text.length()));
        int[] first = {0, -1};
        int size = 36;
        int cell = -1;
        int one = -1;
        int people = 0;
        int errands = 0;
        int signs = 0;
        int i = 0;
        while (!tokens.get(i).text.isEmpty()) {
            Token word = tokens.get(i);
            if (!words.containsKey(word.text)) {
                return new int[] {1, word.place};
            }
            people += word.text.equals("foot") ? 1 : 0;
            errands += word.text.equals("errand") ? 1 : 0;
            signs += word.text.equals("sign") ? 1 : 0;
            boolean crowd = word.text.equals("foot") && people > 6 || word.text.equals("errand") && errands > 5
                || word.text.equals("sign") && signs > 10;
            note(first, crowd, 3, word.place);
            List<Integer> numbers = new ArrayList<>();
            String[] ranges = words.get(word.text).split(" ");
            boolean endless = ranges[ranges.length - 1].equals("*");
            int least = endless ? ranges.length - 1 : ranges.length;
            for (i++; tokens.get(i).isNumber() && (endless || numbers.size() < least); i++) {
                int number = Integer.parseInt(tokens.get(i).text);
                String[] range = ranges[Math.min(numbers.size(), least - 1)].split("-");
                boolean wrong = number < Integer.parseInt(range[0]) || number > Integer.parseInt(range[1])
                    || word.text.equals("carry") && numbers.size() == 1 && numbers.get(0) == number;
                note(first, wrong, 2, tokens.get(i).place);
                note(first, endless && numbers.size() == 27, 3, tokens.get(i).place);
                numbers.add(number);
            }
            if (numbers.size() < least || !tokens.get(i).text.equals(";")) {
                return new int[] {1, tokens.get(i).place};
            }
            i++;
            switch (word.text) {
                case "size": size = numbers.get(0) * numbers.get(1); break;
                case "walk":
                    one = Math.max(one, numbers.get(0));
                    cell = Math.max(cell, numbers.get(1));
                    break;
                case "carry": one = Math.max(one, Math.max(numbers.get(0), numbers.get(1))); break;
                case "errand":
                    one = Math.max(one, numbers.get(0));
                    cell = Math.max(cell, Math.max(numbers.get(1), numbers.get(2)));
                    break;
                case "feet": case "hands": case "rolled": one = Math.max(one, numbers.get(0)); break;
                default: break;
            }
        }
        note(first, cell >= size || one >= people, 4, text.length());
        return first;
    }

    private static void note(int[] first, boolean is, int kind, int place) {
        if (is && first[0] == 0) {
            first[0] = kind;
            first[1] = place;
        }
    }
}
