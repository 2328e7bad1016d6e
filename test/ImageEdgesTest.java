import java.util.List;

/** Promises 31 and 32 at their edges, a method for each sentence; and what no call may change that only asks or is refused. */
public final class ImageEdgesTest {
    private static final String NIGHT = "size 5 3;wet 1;foot 0 1 3 0;foot 0 1 5 1;foot 2 2 2 0;walk 0 5 0 1 1 1;walk 1 5 1 1 1 0;"
        + "walk 2 0 3 2 1;hands 2;errand 0 5 7;errand 1 0 4;rain 90;";
    private static final String READING = "sign 5 0 0 1 4;sign 6 0 1 1 4;sign 7 0 0 1 3;";
    private static final String TAPE = "wet 7;size 4 4;";

    public static void main(String[] args) {
        imageNumbers();
        againOfNone();
        againTellsTrueEachTime();
        imageOfANewObject();
        imageAsItIsNow();
        allThatIsTold();
        tapeOfAnImage();
        faultOfAnImage();
        otherImagesStay();
        noImageChangesWhatIsTold();
        refusedImages();
        refusedTape();
        refusedTexts();
        refusedQuestions();
        questions();
        Check.close();
    }

    /** Two nights, two readings, a FAULT and a tape. */
    private static ClayPrints full() {
        ClayPrints x = Check.night(NIGHT, READING);
        Check.put(x, "foot 1 1 1 0;walk 0 9 2 1 1;errand 0 1 2;");
        Check.due("night 1", 1, x.text(0, -1));
        Check.put(x, "sign 1 1 1 1 1;");
        Check.due("reading 1", 1, x.text(1, -1));
        Check.put(x, "wet 3;wet 10;");
        Check.due("a FAULT", -1, x.text(0, 1));
        Check.put(x, TAPE);
        return x;
    }

    private static List<Long> asked(ClayPrints x) {
        return Asked.of(x, TAPE.length());
    }

    private static void same(String call, List<Long> want, List<Long> got) {
        Check.due(call + " leaves all as it is: " + want + " " + got, true, want.equals(got));
    }

    /** What is on the tape, too: this takes it. */
    private static void sameTape(String call, ClayPrints x) {
        Check.due(call + ": the tape's text", 0, x.text(0, 0));
        Check.dueRow(call + ": of the tape", 0, what -> x.night(0, what), 4, 4, 7, 0, 0, 0);
    }

    // ---- promise 31

    /** Image k (0 .. 2): true; false for another k. */
    private static void imageNumbers() {
        ClayPrints x = new ClayPrints();
        for (int k : new int[] {-1, 3, 4, -2, Integer.MIN_VALUE, Integer.MAX_VALUE}) {
            Check.due("image " + k, false, x.image(k));
            Check.due("again " + k, false, x.again(k));
        }
        for (int k = 0; k <= 2; k++) {
            Check.due("image " + k, true, x.image(k));
            Check.due("image " + k + " once more", true, x.image(k));
        }
    }

    /** False if there is none such. */
    private static void againOfNone() {
        for (int k = 0; k <= 2; k++) {
            ClayPrints x = new ClayPrints();
            x.image(k);
            for (int other = -1; other <= 3; other++) {
                Check.due("again " + other + " of " + k, other == k, x.again(other));
            }
        }
    }

    private static void againTellsTrueEachTime() {
        ClayPrints x = Check.night(NIGHT);
        x.image(1);
        for (int i = 0; i < 5; i++) {
            x.text(0, 0);
            Check.due("nobody", 0, x.night(0, 3));
            Check.due("again", true, x.again(1));
            Check.due("PEOPLE", 3, x.night(0, 3));
        }
    }

    private static void imageOfANewObject() {
        ClayPrints x = new ClayPrints();
        List<Long> before = Asked.of(x, 0);
        x.image(0);
        Check.put(x, NIGHT);
        x.text(0, -1);
        Check.put(x, "sign");
        x.text(1, -1);
        x.feed(1, 2, 3, 4, 5);
        Check.due("again", true, x.again(0));
        same("again of a new one", before, Asked.of(x, 0));
        NoSuch.night(x, 0, 0);
        Check.due("a further one", 0, x.text(0, -1));
        Check.due("nobody is left of the other one", 0, x.night(0, 3));
    }

    /** As it is now: what comes later is not in it. */
    private static void imageAsItIsNow() {
        ClayPrints x = full();
        List<Long> then = asked(x);
        Check.due("image", true, x.image(2));
        same("image", then, asked(x));
        x.text(0, 0);
        x.text(0, 1);
        x.text(1, 0);
        x.text(1, 1);
        Check.due("again", true, x.again(2));
        same("again", then, asked(x));
        sameTape("again", x);
    }

    /** All that is told: also where there was less of it. */
    private static void allThatIsTold() {
        ClayPrints x = new ClayPrints();
        x.image(0);
        Check.put(x, NIGHT);
        x.text(0, -1);
        x.image(1);
        Check.put(x, READING);
        x.text(1, -1);
        x.image(2);
        int[][] want = {{0, 0}, {1, 0}, {1, 1}};
        for (int k : new int[] {2, 0, 2, 1, 0, 1, 2}) {
            Check.due("again " + k, true, x.again(k));
            Check.dueRow("counts of " + k, 0, x::count, want[k][0], want[k][1]);
            Check.due("PEOPLE of " + k, k == 0 ? -1 : 3, x.night(0, 3));
            Check.due("SIGNS of " + k, k == 2 ? 3 : -2, x.sign(0, -1, 0));
            Check.due("WALKS of " + k, k == 2 ? 2 : -2, x.walks(0, 0, 0));
            Check.due("TOUR of " + k, k == 0 ? -1 : 8, x.tour(0, 0));
        }
    }

    /** The tape, too: none of it, and all of it. */
    private static void tapeOfAnImage() {
        ClayPrints x = new ClayPrints();
        x.image(0);
        Check.put(x, "wet 8;" + " ".repeat(594));
        x.image(1);
        x.end(3);
        x.image(2);
        x.end(0);
        Check.put(x, "?".repeat(600));
        x.again(1);
        Check.dueTape("600", 600, x);
        Check.due("its text", 0, x.text(0, -1));
        Check.due("its WET", 8, x.night(0, 2));
        x.again(0);
        Check.dueTape("none", 0, x);
        x.again(2);
        Check.dueTape("three", 3, x);
        x.feed(0x20393B20, 0x20202020, 0x20202020, 0x20202020, 0x20202020);
        Check.due("its text", 0, x.text(0, -1));
        Check.due("its WET", 9, x.night(0, 2));
    }

    /** The FAULT, too. */
    private static void faultOfAnImage() {
        ClayPrints x = new ClayPrints();
        x.image(0);
        Check.put(x, "wet");
        x.text(0, -1);
        x.image(1);
        Check.put(x, "hands 0;");
        x.text(0, -1);
        x.image(2);
        x.text(0, -1);
        Check.dueRow("now", 0, x::fault, 0, -1);
        x.again(1);
        Check.dueRow("of 1", 0, x::fault, 1, 3);
        x.again(2);
        Check.dueRow("of 2", 0, x::fault, 4, 8);
        x.again(0);
        Check.dueRow("of 0", 0, x::fault, 0, -1);
    }

    // ---- promise 32

    /** Other images stay, and the one itself does. */
    private static void otherImagesStay() {
        ClayPrints x = Check.night("wet 1;");
        for (int k = 0; k <= 2; k++) {
            Check.put(x, "wet " + (k + 5) + ";");
            x.text(0, 0);
            x.image(k);
        }
        for (int k : new int[] {0, 1, 2, 2, 1, 0, 2, 0}) {
            Check.due("again " + k, true, x.again(k));
            Check.due("WET of " + k, k + 5, x.night(0, 2));
            Check.put(x, "wet 0;foot 0 1 1 0;");
            Check.due("another text", 0, x.text(0, 0));
            Check.put(x, "wet 1;");
        }
        x.again(1);
        x.image(0);
        x.again(2);
        Check.due("2 stays", 7, x.night(0, 2));
        x.again(0);
        Check.due("0 is as 1 now", 6, x.night(0, 2));
        x.again(1);
        Check.due("1 stays", 6, x.night(0, 2));
    }

    private static void noImageChangesWhatIsTold() {
        ClayPrints x = full();
        List<Long> then = asked(x);
        for (int k = -1; k <= 3; k++) {
            x.image(k);
        }
        same("image", then, asked(x));
        sameTape("image", x);
    }

    // ---- what is refused changes nothing

    private static void refusedImages() {
        ClayPrints x = full();
        x.image(0);
        x.text(1, 0);
        x.feed(0x77657420, 0x373B7369, 0x7A652034, 0x20343B00, 0);
        x.end(TAPE.length());
        List<Long> then = asked(x);
        for (int k : new int[] {1, 2}) {
            Check.due("again " + k, false, x.again(k));
        }
        for (int k : new int[] {-1, 3, Integer.MIN_VALUE, Integer.MAX_VALUE}) {
            Check.due("again " + k, false, x.again(k));
            Check.due("image " + k, false, x.image(k));
        }
        same("refused images", then, asked(x));
        sameTape("refused images", x);
    }

    private static void refusedTape() {
        ClayPrints x = full();
        List<Long> then = asked(x);
        for (int n : new int[] {-1, TAPE.length() + 1, 600, 601, Integer.MIN_VALUE, Integer.MAX_VALUE}) {
            Check.due("end " + n, -1, x.end(n));
        }
        same("refused ends", then, asked(x));
        sameTape("refused ends", x);
        Check.put(x, " ".repeat(590));
        List<Long> long590 = Asked.of(x, 590);
        Check.due("feed", -1, x.feed(1, 2, 3, 4, 5));
        same("a refused feed", long590, Asked.of(x, 590));
    }

    /** All but the tape and the FAULT stays. */
    private static void refusedTexts() {
        ClayPrints x = full();
        x.end(0);
        List<Long> then = Asked.of(x, 0);
        Check.due("the FAULT", 2L, then.get(2));
        then.set(2, 0L);
        then.set(3, -1L);
        int[][] calls = {{0, -1}, {1, -1}, {0, 2}, {1, 2}, {0, -2}, {2, 0}, {-1, -1}, {Integer.MAX_VALUE, 0}};
        for (int[] call : calls) {
            Check.put(x, "wet 9;");
            Check.due("text", -2, x.text(call[0], call[1]));
        }
        same("refused texts", then, Asked.of(x, 0));
        Check.put(x, "size 8 8;wet 9;foot 5 3 9 2;hands 1;");
        Check.due("a FAULT", -1, x.text(0, 0));
        Check.put(x, "sign 9 0 0 0 9;sign 9 0 0 0 0;");
        Check.due("a FAULT", -1, x.text(1, 0));
        then.set(2, 2L);
        then.set(3, 28L);
        same("texts with a FAULT", then, Asked.of(x, 0));
    }

    private static void refusedQuestions() {
        ClayPrints x = full();
        List<Long> then = asked(x);
        NoSuch.night(x, 2, 0);
        NoSuch.night(x, -1, 1);
        NoSuch.reading(x, 0, 2);
        NoSuch.person(x, 0, 3);
        NoSuch.person(x, 0, Integer.MIN_VALUE);
        same("refused questions", then, asked(x));
        sameTape("refused questions", x);
    }

    /** Nor does a question that is answered: what would be is told of no NIGHT. */
    private static void questions() {
        ClayPrints x = full();
        List<Long> then = asked(x);
        for (int night = 0; night <= 1; night++) {
            x.where(night, 0, 5);
            x.cell(night, 99, 6, 0);
            x.gait(night, 0, 0);
            x.fair(night, 0, true);
            x.alone(night, 0);
            x.alone(night, -1);
            x.pays(night, -1);
            x.traps(night, 3, 1);
            x.near(night, 0, 3, 4);
            x.way(night, 0, 0, 4, 0);
            x.drawn(night, 5, 50, 0);
            x.drawn(night, 5, 100, 2);
            x.carried(night, 0, 1, true);
            x.carried(night, 1, 0, false);
            x.better(night, 0, true);
            x.better(night, 0, false);
            x.thieves(night, 6, 0, 99);
            x.row(night, 0, 2);
            x.row(night, 1, 1);
            x.walks(night, 1, 1);
        }
        same("questions", then, asked(x));
        sameTape("questions", x);
    }
}
