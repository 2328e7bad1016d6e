/** Promises 6 to 8, 17 and 20 at their edges, a method for each sentence: nights, PEOPLE, CELLS and SIGNS as they are told. */
public final class ToldEdgesTest {
    private static final String ONE = "foot 0 1 1 0;";
    private static final String SIX = ONE.repeat(6);

    public static void main(String[] args) {
        nightNoneSuch();
        readingNoneSuch();
        personNoneSuch();
        nightAtFirst();
        nightWhat();
        errandsThereAre();
        rainyMinutes();
        oneCellToAnother();
        personAtFirst();
        personWhat();
        stepsMade();
        stepsToTheEdge();
        stepsBehindOneNotMade();
        noStepsOfOneCarried();
        laterOnesStrike();
        furtherOnesDoNotStrike();
        whereFromItsMinuteOn();
        whereAtItsEnd();
        whereWithoutAWalk();
        whereOfOneCarried();
        whereOfOneCarriedByOneCarried();
        whereMinute();
        nearSteps();
        nearRange();
        nearCell();
        nearMinute();
        nearNobody();
        signs();
        signNone();
        signWhat();
        Check.close();
    }

    /** There is none such (NIGHT): of every method. */
    private static void nightNoneSuch() {
        ClayPrints x = Check.night(ONE + ONE, "sign 0 0 0 0 3;");
        int[] out = {-1, 1, 2, Integer.MIN_VALUE, Integer.MAX_VALUE};
        for (int night : out) {
            NoSuch.night(x, night, 0);
        }
        x.text(0, -1);
        Check.due("night 1 is there now", 0, x.night(1, 3));
        for (int night : new int[] {-1, 2, 3, -2}) {
            NoSuch.night(x, night, 0);
        }
    }

    /** There is none such (READING): of every method. */
    private static void readingNoneSuch() {
        ClayPrints x = Check.night(ONE + ONE, "sign 0 0 0 0 3;");
        int[] out = {-1, 1, 2, Integer.MIN_VALUE, Integer.MAX_VALUE};
        for (int reading : out) {
            NoSuch.reading(x, 0, reading);
        }
        x.text(1, -1);
        Check.due("reading 1 is there now", 0, x.sign(1, -1, 0));
        for (int reading : new int[] {-1, 2, 3, -2}) {
            NoSuch.reading(x, 0, reading);
        }
    }

    /** There is none such (one of PEOPLE): of every method. */
    private static void personNoneSuch() {
        ClayPrints x = Check.night(ONE + ONE);
        for (int person : new int[] {-1, 2, 5, 6, -2, Integer.MIN_VALUE, Integer.MAX_VALUE}) {
            NoSuch.person(x, 0, person);
        }
        ClayPrints y = Check.night(SIX);
        for (int person : new int[] {-1, 6, -2, Integer.MIN_VALUE, Integer.MAX_VALUE}) {
            NoSuch.person(y, 0, person);
        }
        Check.due("the last one is there", 0, y.person(0, 5, 0));
        ClayPrints z = Check.night("");
        for (int person : new int[] {-1, 0, 1}) {
            NoSuch.person(z, 0, person);
        }
    }

    // ---- promise 6

    /** 6 and 6 at first; WET (2). */
    private static void nightAtFirst() {
        ClayPrints x = Check.night("");
        Check.dueRow("night", 0, what -> x.night(0, what), 6, 6, 2, 0, 0, 0);
        ClayPrints y = Check.night("wet 0;");
        Check.dueRow("wet 0", 0, what -> y.night(0, what), 6, 6, 0);
    }

    /** NONE for another what. */
    private static void nightWhat() {
        ClayPrints x = Check.night(SIX + "errand 1 2 3;".repeat(5));
        Check.dueOut("night", -1, what -> x.night(0, what), -1, 6, 7, 8, 9, 15, 16, 19, 25, 26, 29, 35, 36, 40, 100);
        ClayPrints y = Check.night("");
        Check.dueOut("empty night", -1, what -> y.night(0, what), -1, 6, 9, 10, 19, 20, 29, 30);
    }

    /** 10 + k, 20 + k, 30 + k: ERRAND k's one, from, to: none, one, the most. */
    private static void errandsThereAre() {
        for (int count = 0; count <= 5; count++) {
            StringBuilder text = new StringBuilder(SIX);
            for (int e = 0; e < count; e++) {
                text.append("errand " + (5 - e) + " " + (10 + e) + " " + (20 + e) + ";");
            }
            ClayPrints x = Check.night(text.toString());
            Check.due("errands", count, x.night(0, 4));
            for (int e = -1; e <= 5; e++) {
                boolean there = e >= 0 && e < count;
                Check.due("one of " + e + " of " + count, there ? 5 - e : -1, x.night(0, 10 + e));
                Check.due("from of " + e + " of " + count, there ? 10 + e : -1, x.night(0, 20 + e));
                Check.due("to of " + e + " of " + count, there ? 20 + e : -1, x.night(0, 30 + e));
            }
        }
    }

    /** Minutes in which it RAINS: each once. */
    private static void rainyMinutes() {
        Check.due("none", 0, Check.night("").night(0, 5));
        Check.due("one", 1, Check.night("rain 0;").night(0, 5));
        Check.due("the same one", 1, Check.night("rain 99;rain 99;rain 99;").night(0, 5));
        Check.due("0 and 00", 1, Check.night("rain 0;rain 00;").night(0, 5));
        Check.due("both ends", 2, Check.night("rain 0;rain 99;").night(0, 5));
        StringBuilder text = new StringBuilder();
        for (int minute = 20; minute < 99; minute++) {
            text.append("rain" + minute + ";");
        }
        Check.due("many", 79, Check.night(text.toString()).night(0, 5));
    }

    /** One, a CELL, another one or the same. */
    private static void oneCellToAnother() {
        ClayPrints x = Check.night(ONE + "errand 0 7 7;errand 0 0 35;");
        Check.due("from 7", 7, x.night(0, 20));
        Check.due("to 7", 7, x.night(0, 30));
        Check.due("from 0", 0, x.night(0, 21));
        Check.due("to 35", 35, x.night(0, 31));
    }

    // ---- promise 7

    /** On feet at first; NONE, NONE, NONE, 0 without. */
    private static void personAtFirst() {
        ClayPrints x = Check.night("foot 5 3 9 2;");
        Check.dueRow("person", 0, what -> x.person(0, 0, what), 5, 3, 9, 2, 0, -1, -1, -1, 0, 0);
    }

    /** -2 for another what. */
    private static void personWhat() {
        ClayPrints x = Check.night(ONE + "walk 0 0 0 1;");
        Check.dueOut("person", -2, what -> x.person(0, 0, what), -1, 10, 11, 20);
    }

    /** 8: its STEPS as told, 9: how many of them are made: 1 and 24, none and all. */
    private static void stepsMade() {
        steps("size 8 8;foot 0 1 1 0;walk 0 0 0 1;", 1, 1);
        steps("size 8 8;foot 0 1 1 0;walk 0 0 0 0;", 1, 0);
        steps("size 8 8;foot 0 1 1 0;walk 0 0 60" + " 1 3".repeat(12) + ";", 24, 24);
        steps("size 8 8;foot 0 1 1 0;walk 0 0 60" + " 1 3".repeat(11) + " 2 3;", 24, 23);
        steps("size 8 8;foot 0 1 1 0;walk 0 0 60 3" + " 1 3".repeat(11) + " 1;", 24, 0);
    }

    private static void steps(String text, int told, int made) {
        ClayPrints x = Check.night(text);
        Check.due("told by " + text, told, x.person(0, 0, 8));
        Check.due("made by " + text, made, x.person(0, 0, 9));
    }

    /** A STEP that leaves the SQUARE is not made: to each side the last CELL is in, by each STRIDE. */
    private static void stepsToTheEdge() {
        for (int stride = 1; stride <= 3; stride++) {
            int last = 8 - stride;
            String foot = "size 8 8;foot 0 " + stride + " 1 0;walk 0 ";
            for (int other = 0; other < 8; other += 7) {
                steps(foot + (8 * stride + other) + " 0 0;", 1, 1);
                steps(foot + (8 * (stride - 1) + other) + " 0 0;", 1, 0);
                steps(foot + (8 * other + last - 1) + " 0 1;", 1, 1);
                steps(foot + (8 * other + last) + " 0 1;", 1, 0);
                steps(foot + (8 * (last - 1) + other) + " 0 2;", 1, 1);
                steps(foot + (8 * last + other) + " 0 2;", 1, 0);
                steps(foot + (8 * other + stride) + " 0 3;", 1, 1);
                steps(foot + (8 * other + stride - 1) + " 0 3;", 1, 0);
            }
        }
        steps("size 2 8;foot 0 1 1 0;walk 0 15 0 3 0 0 0 0 0 0 0 0;", 9, 8);
        steps("size 8 2;foot 0 1 1 0;walk 0 0 0 2 1 1 1 1 1 1 1 1;", 9, 8);
        steps("size 2 2;foot 0 2 1 0;walk 0 0 0 1;", 1, 0);
    }

    /** And all behind it are not made. */
    private static void stepsBehindOneNotMade() {
        ClayPrints x = Check.night("size 3 3;foot 0 1 1 0;walk 0 4 0 1 1 3 3 3;");
        Check.due("made", 1, x.person(0, 0, 9));
        Check.dueRow("where", 0, minute -> x.where(0, 0, minute), 4, 5, 5, 5, 5, 5);
        Check.due("prints", 2, x.print(0, 99, -1, 0));
    }

    /** Who is CARRIED does not walk (nor whom he carries), whatever is told. */
    private static void noStepsOfOneCarried() {
        ClayPrints x = Check.night(ONE + ONE + ONE + "walk 0 0 0 1;walk 1 6 3 1 1;walk 2 12 4 1;carry 0 1;carry 1 2;");
        Check.dueRow("carrier", 5, what -> x.person(0, 0, what), -1, 0, 0, 1, 1);
        Check.dueRow("carried", 5, what -> x.person(0, 1, what), 0, 6, 3, 2, 0);
        Check.dueRow("carried by one carried", 5, what -> x.person(0, 2, what), 1, 12, 4, 1, 0);
        Check.dueRow("feet", 0, p -> x.gait(0, p, 0), 2, 0, 0);
        ClayPrints y = Check.night(ONE + ONE + "walk 0 0 0 1;walk 1 6 3 1;carry 0 1;carry 1 0;");
        Check.dueRow("each by the other", 0, p -> y.gait(0, p, 0), 0, 0);
    }

    /** Later ones strike. */
    private static void laterOnesStrike() {
        ClayPrints x = Check.night("size 2 3;size 4 5;wet 9;wet 0;" + SIX + "walk 0 1 1 1 2 3;walk 0 2 2 2;carry 0 1;carry 2 1;"
            + "hands 3;rolled 3;rolled 4;hands 4;hands 5;feet 5;");
        Check.dueRow("night", 0, what -> x.night(0, what), 4, 5, 0, 6);
        Check.dueRow("walk", 6, what -> x.person(0, 0, what), 2, 2, 1, 1);
        Check.due("carry", 2, x.person(0, 1, 5));
        Check.dueRow("manner", 3, p -> x.person(0, p, 4), 2, 1, 0);
        ClayPrints y = Check.night(ONE + "walk 0 1 9 1;walk 0 2 2 2;");
        Check.due("nothing of the first WALK", 2, y.print(0, 99, -1, 0));
    }

    /** But PEOPLE, RAINS, ERRANDS, SIGNS, which are further ones. */
    private static void furtherOnesDoNotStrike() {
        ClayPrints x = Check.night(ONE + ONE + "rain 3;rain 4;errand 0 1 2;errand 0 1 2;", "sign 1 1 1 1 1;sign 1 1 1 1 1;");
        Check.dueRow("night", 3, what -> x.night(0, what), 2, 2, 2);
        Check.due("signs", 2, x.sign(0, -1, 0));
    }

    // ---- promise 8

    /** From the MINUTE of his WALK on; ahead of it he is nowhere. */
    private static void whereFromItsMinuteOn() {
        for (int begins : new int[] {0, 1, 59, 60}) {
            ClayPrints x = Check.night(ONE + "walk 0 7 " + begins + " 1 1;");
            Check.due("ahead of " + begins, begins == 0 ? -2 : -1, x.where(0, 0, begins - 1));
            Check.dueRow("from " + begins, begins, minute -> x.where(0, 0, minute), 7, 8, 9, 9);
            Check.due("at first", begins == 0 ? 7 : -1, x.where(0, 0, 0));
        }
    }

    /** Also when it is at its end. */
    private static void whereAtItsEnd() {
        ClayPrints x = Check.night(ONE + "walk 0 0 60" + " 1 3".repeat(11) + " 1 2;");
        Check.dueRow("the last STEP", 82, minute -> x.where(0, 0, minute), 0, 1, 7, 7);
        Check.due("the last minute", 7, x.where(0, 0, 99));
    }

    /** NONE: nowhere. */
    private static void whereWithoutAWalk() {
        ClayPrints x = Check.night(ONE);
        Check.dueAt("nowhere", -1, minute -> x.where(0, 0, minute), 0, 50, 99);
    }

    /** His CELL is his carrier's. */
    private static void whereOfOneCarried() {
        ClayPrints x = Check.night(ONE + ONE + ONE + ONE + "walk 0 0 5 1;walk 1 20 0 1;carry 0 1;carry 3 2;rolled 0;");
        Check.dueRow("carried", 4, minute -> x.where(0, 1, minute), -1, 0, 1, 1);
        Check.due("carried by one without a WALK", -1, x.where(0, 2, 99));
    }

    /** If that one is CARRIED, too, it is, in all minutes, where the WALK of the one himself begins (nowhere without one). */
    private static void whereOfOneCarriedByOneCarried() {
        ClayPrints x = Check.night(SIX + "walk 0 0 0 1;walk 1 20 0 1;walk 2 30 60 1;carry 0 1;carry 1 2;carry 1 3;carry 2 4;"
            + "walk 4 33 7 1;");
        Check.dueAt("with a WALK", 30, minute -> x.where(0, 2, minute), 0, 1, 59, 60, 61, 99);
        Check.dueAt("without one", -1, minute -> x.where(0, 3, minute), 0, 1, 99);
        Check.dueAt("by one who is, too", 33, minute -> x.where(0, 4, minute), 0, 6, 7, 8, 99);
        Check.dueRow("the carrier", 0, minute -> x.where(0, 1, minute), 0, 1, 1);
        ClayPrints y = Check.night(ONE + ONE + "walk 0 3 9 1;carry 0 1;carry 1 0;");
        Check.dueAt("each by the other", 3, minute -> y.where(0, 0, minute), 0, 9, 99);
        Check.dueAt("each by the other, without a WALK", -1, minute -> y.where(0, 1, minute), 0, 9, 99);
    }

    /** A minute, 0 .. 99; -2: there is none such. */
    private static void whereMinute() {
        ClayPrints x = Check.night(ONE + "walk 0 7 0 1;");
        Check.due("0", 7, x.where(0, 0, 0));
        Check.due("99", 8, x.where(0, 0, 99));
        Check.dueOut("where", -2, minute -> x.where(0, 0, minute), -1, 100, 101);
    }

    // ---- promise 17

    /** Not more than r steps (in rows and columns together) from it. */
    private static void nearSteps() {
        ClayPrints x = Check.night("size 8 8;" + ONE + ONE + ONE + ONE + "walk 0 27 0 0;walk 1 28 0 0;walk 2 35 0 0;walk 3 45 0 0;");
        Check.dueRow("from 27", 0, r -> x.near(0, 27, r, 0), 1, 7, 7, 7, 15, 15);
        Check.dueRow("from 0", 5, r -> x.near(0, 0, r, 0), 0, 1, 7, 7, 7, 15);
        ClayPrints y = Check.night("size 8 2;" + ONE + "walk 0 8 0 0;");
        Check.dueRow("no step round the edge", 7, r -> y.near(0, 7, r, 0), 0, 1);
    }

    /** R 0 .. 14; NONE: another r. */
    private static void nearRange() {
        ClayPrints x = Check.night("size 8 8;" + ONE + ONE + "walk 0 0 0 0;walk 1 63 0 2;");
        Check.due("r 0", 1, x.near(0, 0, 0, 0));
        Check.due("r 13", 1, x.near(0, 0, 13, 0));
        Check.due("r 14", 3, x.near(0, 0, 14, 0));
        Check.due("r 14 from the end", 3, x.near(0, 63, 14, 0));
        Check.dueOut("near", -1, r -> x.near(0, 0, r, 0), -1, 15, 16);
    }

    /** There is none such (CELL). */
    private static void nearCell() {
        ClayPrints x = Check.night("size 3 5;" + ONE + "walk 0 14 0 2;");
        Check.due("cell 0", 1, x.near(0, 0, 14, 0));
        Check.due("cell 14", 1, x.near(0, 14, 0, 0));
        Check.dueOut("near", -1, cell -> x.near(0, cell, 14, 0), -1, 15, 63, 64);
        ClayPrints y = Check.night("size 8 8;");
        Check.due("cell 63", 0, y.near(0, 63, 14, 0));
        Check.dueOut("near", -1, cell -> y.near(0, cell, 14, 0), -1, 64);
    }

    /** There is none such (minute). */
    private static void nearMinute() {
        ClayPrints x = Check.night(ONE + "walk 0 0 1 1;");
        Check.due("nowhere yet", 0, x.near(0, 0, 14, 0));
        Check.due("its minute", 1, x.near(0, 0, 0, 1));
        Check.due("the last one", 1, x.near(0, 1, 0, 99));
        Check.dueOut("near", -1, minute -> x.near(0, 0, 14, minute), -1, 100, 101);
    }

    private static void nearNobody() {
        Check.due("no PEOPLE", 0, Check.night("").near(0, 0, 14, 0));
        Check.due("nobody anywhere", 0, Check.night(SIX).near(0, 0, 14, 99));
        ClayPrints x = Check.night(ONE + ONE + ONE + ONE + "walk 0 5 0 1;walk 3 9 9 1;carry 0 1;carry 1 3;rolled 0;");
        Check.due("also who is rolled or carried", 11, x.near(0, 0, 14, 0));
        Check.due("each in his CELL", 8, x.near(0, 9, 0, 50));
    }

    // ---- promise 20

    /** Of SIGN k: none, one, the most. */
    private static void signs() {
        for (int count = 0; count <= 10; count++) {
            StringBuilder text = new StringBuilder();
            for (int k = 0; k < count; k++) {
                text.append("sign " + (k + 20) + " " + k % 7 + " " + k % 2 + " " + k % 4 + " " + (k + 80) + ";");
            }
            ClayPrints x = Check.night("", text.toString());
            Check.due("how many", count, x.sign(0, -1, 0));
            for (int k = 0; k < count; k++) {
                int sign = k;
                Check.dueRow("sign " + k, -1, what -> x.sign(0, sign, what), -2, k + 20, k % 7, k % 2, k % 4, k + 80, -2);
            }
            for (int what = 0; what <= 4; what++) {
                int w = what;
                Check.dueOut("sign of " + count + ", what " + what, -2, k -> x.sign(0, k, w), -2, count, 10, 11);
            }
        }
    }

    /** How many SIGNS (k NONE, what 0); -2 for another what. */
    private static void signNone() {
        ClayPrints x = Check.night("", "sign 1 2 0 3 4;");
        Check.due("what 0", 1, x.sign(0, -1, 0));
        Check.dueOut("k NONE", -2, what -> x.sign(0, -1, what), -1, 1, 2, 3, 4, 5);
    }

    /** -2 for another what. */
    private static void signWhat() {
        ClayPrints x = Check.night("", "sign 1 2 0 3 4;");
        Check.dueOut("sign 0", -2, what -> x.sign(0, 0, what), -1, 5, 6);
    }
}
