/** Promises 1 to 3, 5 and 30 at their edges, a method for each sentence: a new object, the tape, FAULTS asked for. */
public final class TapeEdgesTest {
    private static final int BLANKS = 0x20202020;

    public static void main(String[] args) {
        newObjectHasNoTexts();
        newObjectHasNoImages();
        newObjectHasAnEmptyTapeAndNoFault();
        feedTellsHowManyItHas();
        feedComesBehindTheTape();
        feedPutsEachNumbersHighestByteFirst();
        feedOfMoreThan600();
        feedRefusedPutsNothing();
        endKeepsTheFirstBytesAlone();
        endOfAllAndOfNone();
        endOfMoreThanItHas();
        endBelowNought();
        faultWhat();
        faultOfTheLatestText();
        countOfSorts();
        Check.close();
    }

    /** No NIGHTS, READINGS. */
    private static void newObjectHasNoTexts() {
        ClayPrints x = new ClayPrints();
        Check.dueRow("new: count", -1, x::count, -2, 0, 0, -2);
        for (int i : new int[] {-1, 0, 1, Integer.MIN_VALUE, Integer.MAX_VALUE}) {
            NoSuch.night(x, i, 0);
            NoSuch.reading(x, 0, i);
        }
    }

    /** No images. */
    private static void newObjectHasNoImages() {
        ClayPrints x = new ClayPrints();
        for (int k = -1; k <= 3; k++) {
            Check.due("new: again " + k, false, x.again(k));
        }
    }

    private static void newObjectHasAnEmptyTapeAndNoFault() {
        ClayPrints x = new ClayPrints();
        Check.dueTape("new", 0, x);
        Check.dueRow("new: fault", 0, x::fault, 0, -1);
        Check.due("new: an empty text", 0, x.text(1, -1));
    }

    /** Twenty bytes come behind it: how many it has. */
    private static void feedTellsHowManyItHas() {
        ClayPrints x = new ClayPrints();
        Check.due("feed 1", 20, x.feed(1, 2, 3, 4, 5));
        Check.due("feed 2", 40, x.feed(0, 0, 0, 0, 0));
        Check.due("end", 39, x.end(39));
        Check.due("feed behind 39", 59, x.feed(0, 0, 0, 0, 0));
        Check.dueTape("fed", 59, x);
    }

    /** Twenty bytes come behind it. */
    private static void feedComesBehindTheTape() {
        ClayPrints x = new ClayPrints();
        Check.put(x, "wet 4");
        Check.due("behind 5", 25, x.feed(0x3B776574, 0x20370A3B, BLANKS, BLANKS, BLANKS)); // ";wet", " 7\n;"
        Check.due("text", 0, x.text(0, -1));
        Check.due("the later one", 7, x.night(0, 2));
        Check.due("behind a text taken", 20, x.feed(0x77657420, 0x333B2020, BLANKS, BLANKS, BLANKS));
        Check.due("text", 1, x.text(0, -1));
        Check.due("by itself", 3, x.night(1, 2));
    }

    /** Of each number the highest first. */
    private static void feedPutsEachNumbersHighestByteFirst() {
        ClayPrints x = new ClayPrints();
        // "size 7 3;foot 4 2 8 1;", blanks and "wet\n05;"
        x.feed(0x73697A65, 0x20372033, 0x3B666F6F, 0x74203420, 0x32203820);
        x.feed(0x313B2020, BLANKS, BLANKS, BLANKS, 0x7765740A);
        x.feed(0x30353B20, BLANKS, BLANKS, BLANKS, BLANKS);
        Check.due("text", 0, x.text(0, -1));
        Check.dueRow("night", 0, what -> x.night(0, what), 7, 3, 5, 1);
        Check.dueRow("person", 0, what -> x.person(0, 0, what), 4, 2, 8, 1);
        for (int high = 0; high < 20; high++) {
            int[] numbers = {BLANKS, BLANKS, BLANKS, BLANKS, BLANKS};
            numbers[high / 4] |= 0x80 << 24 - 8 * (high % 4);
            x.feed(numbers[0], numbers[1], numbers[2], numbers[3], numbers[4]);
            Check.due("a byte above 127", -1, x.text(0, 0));
            Check.due("its place", high, x.fault(1));
        }
    }

    /** NONE if there would be more than 600. */
    private static void feedOfMoreThan600() {
        ClayPrints x = new ClayPrints();
        for (int i = 1; i <= 30; i++) {
            Check.due("feed " + i, 20 * i, x.feed(BLANKS, BLANKS, BLANKS, BLANKS, BLANKS));
        }
        Check.due("feed 31", -1, x.feed(BLANKS, BLANKS, BLANKS, BLANKS, BLANKS));
        x.end(580);
        Check.due("feed of 580", 600, x.feed(BLANKS, BLANKS, BLANKS, BLANKS, BLANKS));
        x.end(581);
        Check.due("feed of 581", -1, x.feed(BLANKS, BLANKS, BLANKS, BLANKS, BLANKS));
    }

    /** And nothing comes. */
    private static void feedRefusedPutsNothing() {
        for (int length : new int[] {581, 590, 599, 600}) {
            ClayPrints x = new ClayPrints();
            Check.put(x, "wet 6;" + " ".repeat(length - 6));
            Check.due("feed of " + length, -1, x.feed(-1, -1, -1, -1, -1));
            Check.dueTape("feed of " + length, length, x);
            Check.due("text of " + length, 0, x.text(0, -1));
            Check.due("wet of " + length, 6, x.night(0, 2));
        }
    }

    /** The tape has its first n bytes alone. */
    private static void endKeepsTheFirstBytesAlone() {
        ClayPrints x = new ClayPrints();
        Check.put(x, "wet 5;wet 6;wet 77;");
        Check.due("end(12)", 12, x.end(12));
        Check.dueTape("cut", 12, x);
        Check.due("what was cut does not come back", -1, x.end(19));
        Check.due("end(6)", 6, x.end(6));
        Check.due("text", 0, x.text(0, -1));
        Check.due("the first one", 5, x.night(0, 2));
    }

    /** n. */
    private static void endOfAllAndOfNone() {
        ClayPrints x = new ClayPrints();
        Check.due("end(0) of none", 0, x.end(0));
        Check.put(x, "?".repeat(600));
        Check.due("end(600) of 600", 600, x.end(600));
        Check.due("end(599) of 600", 599, x.end(599));
        Check.due("end(599) of 599", 599, x.end(599));
        Check.due("end(1) of 599", 1, x.end(1));
        Check.due("end(0) of 1", 0, x.end(0));
        Check.dueTape("none", 0, x);
    }

    /** NONE if it has not so many; the tape stays. */
    private static void endOfMoreThanItHas() {
        ClayPrints x = new ClayPrints();
        Check.dueAt("end of none", -1, x::end, 1, 20, 600, 601, Integer.MAX_VALUE);
        Check.put(x, "wet 8;");
        Check.dueAt("end of 6", -1, x::end, 7, 20, 600, 601, Integer.MAX_VALUE);
        Check.due("text", 0, x.text(0, -1));
        Check.due("told", 8, x.night(0, 2));
        Check.put(x, " ".repeat(600));
        Check.dueAt("end of 600", -1, x::end, 601, 620, Integer.MAX_VALUE);
        Check.dueTape("600", 600, x);
    }

    /** NONE if n is below 0; the tape stays. */
    private static void endBelowNought() {
        ClayPrints x = new ClayPrints();
        Check.dueAt("end of none", -1, x::end, -1, -2, Integer.MIN_VALUE);
        Check.put(x, "wet 8;");
        Check.dueAt("end of 6", -1, x::end, -1, -2, -6, Integer.MIN_VALUE);
        Check.dueTape("end of 6", 6, x);
        Check.due("text", 0, x.text(0, -1));
        Check.due("told", 8, x.night(0, 2));
    }

    /** NONE for another what. */
    private static void faultWhat() {
        ClayPrints x = new ClayPrints();
        Check.dueOut("fault, new", -1, x::fault, -1, 2);
        Check.put(x, "wet 10;");
        x.text(0, -1);
        Check.dueRow("fault", -1, x::fault, -1, 2, 4, -1);
        Check.dueOut("fault", -1, x::fault, -1, 2);
    }

    /** Of the latest text(): 0 and NONE without a FAULT. */
    private static void faultOfTheLatestText() {
        ClayPrints x = new ClayPrints();
        latest(x, "hands 0;", 0, -1, 4, 8);
        latest(x, "wex", 0, -2, 0, -1);
        latest(x, "sign 0 0 0 0 1;".repeat(11), 1, -1, 3, 150);
        latest(x, "", 1, 0, 0, -1);
        latest(x, "sign", 1, -1, 1, 4);
        x.feed(0, 0, 0, 0, 0);
        x.end(21);
        x.count(5);
        Check.dueRow("other calls leave it", 0, x::fault, 1, 4);
        latest(x, "", 0, 0, 0, -1);
    }

    private static void latest(ClayPrints x, String text, int sort, int answer, int kind, int place) {
        Check.put(x, text);
        Check.due("text: " + text, answer, x.text(sort, answer == -2 ? -2 : -1));
        Check.dueRow("fault: " + text, 0, x::fault, kind, place);
    }

    /** How many there are of a sort; -2 for another one. */
    private static void countOfSorts() {
        ClayPrints x = new ClayPrints();
        for (int nights = 0; nights <= 3; nights++) {
            Check.dueRow("after nights " + nights, 0, x::count, Math.min(2, nights), 0);
            Check.dueOut("after nights " + nights, -2, x::count, -1, 2);
            x.text(0, -1);
        }
        for (int readings = 0; readings <= 3; readings++) {
            Check.dueRow("after readings " + readings, 0, x::count, 2, Math.min(2, readings));
            x.text(1, -1);
        }
        Check.dueOut("all", -2, x::count, -1, 2);
        x.text(0, 0);
        x.text(1, 1);
        Check.dueRow("in the place of one", 0, x::count, 2, 2);
        Check.put(x, "?");
        x.text(0, 1);
        Check.dueRow("with a FAULT", 0, x::count, 2, 2);
    }
}
