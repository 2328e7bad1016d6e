/** Promises 9 to 11, 16, 25 and 28 at their edges, a method for each sentence: prints, CELLS, gaits, TRAPS, DAWN, THIEVES. */
public final class ClayEdgesTest {
    private static final String ONE = "foot 0 1 1 0;";

    /** Six in one row of CELLS, each print on those of the others: 150 prints. */
    private static String crowd() {
        StringBuilder text = new StringBuilder("size 8 8;wet 0;");
        for (int p = 0; p < 6; p++) {
            text.append("foot " + p + " 1 " + (p + 1) + " 0;walk " + p + " 0 60" + " 1 1 1 3 3 3".repeat(4) + ";");
        }
        return text.toString();
    }

    public static void main(String[] args) {
        noPrints();
        onePrint();
        mostPrints();
        printMinute();
        printNone();
        printNoneSuch();
        printWhat();
        rightFootFirstThenByTurns();
        sideOfTheFirstStep();
        soleOnHands();
        depthOfWhatHeCarriesHimself();
        depthOfTheFootThatLimps();
        rolledMakesNone();
        sameSoleFootAndSide();
        topmostPrintAlone();
        greaterDepthOfBoth();
        usersOfOnePrint();
        byNumbersInOneMinute();
        rainAheadOfFeet();
        rainOfTheFirstAndTheLastMinute();
        overThoseOfItsCell();
        cellHeightAndTop();
        cellDepthAndUsers();
        cellNoneSuch();
        cellWhat();
        gaitOfNoneAndAll();
        gaitWhat();
        trapsOfSomeCells();
        trapsInTheFirstAndTheLastCell();
        trapsOfNobody();
        trapsFirstByRows();
        trapsRange();
        trapsWhat();
        dawnOfNothing();
        hidden();
        twins();
        deepest();
        route();
        dawnWhat();
        thieves();
        thievesMinutes();
        thievesCell();
        Check.close();
    }

    // ---- promise 9

    private static void noPrints() {
        ClayPrints x = Check.night("");
        Check.dueAt("none", 0, minute -> x.print(0, minute, -1, 0), 0, 1, 60, 98, 99);
        Check.due("not even the first", -2, x.print(0, 99, 0, 0));
    }

    private static void onePrint() {
        ClayPrints x = Check.night("size 2 2;wet 9;foot 5 3 9 0;walk 0 3 60 3;");
        Check.due("ahead", 0, x.print(0, 59, -1, 0));
        Check.due("ahead, not the first", -2, x.print(0, 59, 0, 0));
        Check.due("one", 1, x.print(0, 60, -1, 0));
        Check.dueRow("print", 0, what -> x.print(0, 60, 0, what), 3, 5, 0, 3, 18, 60, 0, 1, 0);
        Check.due("no more", -2, x.print(0, 99, 1, 0));
    }

    private static void mostPrints() {
        ClayPrints x = Check.night(crowd());
        Check.due("ahead", 0, x.print(0, 59, -1, 0));
        Check.due("six a minute", 6, x.print(0, 60, -1, 0));
        Check.due("behind 83", 144, x.print(0, 83, -1, 0));
        Check.due("behind 84", 150, x.print(0, 84, -1, 0));
        Check.due("at DAWN", 150, x.print(0, 99, -1, 0));
        Check.dueRow("print 0", 0, what -> x.print(0, 99, 0, what), 0, 0, 0, 1, 1, 60, 0, 1, 0);
        Check.dueRow("print 149", 0, what -> x.print(0, 99, 149, what), 0, 5, 0, 3, 6, 84, 5, 32, 29);
        Check.due("print 150", -2, x.print(0, 99, 150, 0));
        Check.due("all of them FEET", 25, x.gait(0, 5, 0));
        Check.due("all of them prints", 25, x.gait(0, 5, 1));
        Check.due("TAX by FOOT", 150, x.tax(0, 0, -1));
        Check.due("TAX by DEPTH", 25 * 21, x.tax(0, 2, -1));
        Check.due("HIDDEN", 146, x.dawn(0, 0));
        Check.due("FAIR part", 25, x.fair(0, 0, false));
    }

    /** Behind a minute, 0 .. 99; -2: there is none such. */
    private static void printMinute() {
        ClayPrints x = Check.night(ONE + "walk 0 0 0 1;");
        Check.due("behind 0", 1, x.print(0, 0, -1, 0));
        Check.due("behind 99", 2, x.print(0, 99, -1, 0));
        Check.dueOut("prints", -2, minute -> x.print(0, minute, -1, 0), -1, 100, 101);
        Check.dueOut("print 0", -2, minute -> x.print(0, minute, 0, 0), -1, 100, 101);
    }

    /** How many (k NONE, what 0). */
    private static void printNone() {
        ClayPrints x = Check.night(ONE + "walk 0 0 0 1;");
        Check.dueOut("k NONE", -2, what -> x.print(0, 99, -1, what), -1, 1, 2, 3, 4, 5, 6, 7, 8, 9);
    }

    /** -2: there is none such (print). */
    private static void printNoneSuch() {
        ClayPrints x = Check.night(ONE + "walk 0 0 0 1;");
        Check.due("print 1", 1, x.print(0, 99, 1, 0));
        for (int what = 0; what <= 8; what++) {
            int w = what;
            Check.dueOut("what " + what, -2, k -> x.print(0, 99, k, w), -2, 2, 149, 150);
            Check.due("not yet made, what " + what, -2, x.print(0, 0, 1, w));
        }
    }

    /** -2: for another what. */
    private static void printWhat() {
        ClayPrints x = Check.night(ONE + "walk 0 0 0 1;");
        Check.dueOut("print 0", -2, what -> x.print(0, 99, 0, what), -1, 9, 10);
    }

    // ---- what makes a print

    private static void rightFootFirstThenByTurns() {
        ClayPrints x = Check.night("size 8 8;" + ONE + "walk 0 0 7 1 1 1 1 1 1 1 2 2 2 2 2 2 2 3 3 3 3 3 3 3 0 0 0;");
        for (int k = 0; k < 25; k++) {
            Check.due("foot of print " + k, k % 2, x.print(0, 99, k, 2));
            Check.due("minute of print " + k, 7 + k, x.print(0, 99, k, 5));
        }
        Check.due("25 prints", 25, x.print(0, 99, -1, 0));
    }

    /** Of the SIDE of that STEP (the first one: of the first STEP told). */
    private static void sideOfTheFirstStep() {
        ClayPrints x = Check.night("size 3 3;" + ONE + "walk 0 4 0 3 2 1 0;");
        Check.dueRow("sides", 0, k -> x.print(0, 99, k, 3), 3, 3, 2, 1, 0, -2);
        ClayPrints y = Check.night("size 3 3;" + ONE + "walk 0 0 0 3 1;");
        Check.dueRow("told, though not made", 0, k -> y.print(0, 99, k, 3), 3, -2);
    }

    /** SOLE (on HANDS: 6). */
    private static void soleOnHands() {
        ClayPrints x = Check.night("foot 5 1 1 0;foot 3 1 1 0;walk 0 0 0 1;walk 1 0 4 1;hands 0;");
        Check.dueRow("soles", 0, k -> x.print(0, 99, k, 1), 6, 6, 3, 3, -2);
        ClayPrints y = Check.night("foot 5 1 1 0;foot 3 1 2 0;walk 0 0 0 1;walk 1 0 4 1;hands 0;hands 1;");
        Check.dueRow("one steps in the other's", 0, k -> y.print(0, 99, k, 7), 3, 3, -2);
    }

    /** DEPTH: WEIGHT, that of all he carries himself, and WET. */
    private static void depthOfWhatHeCarriesHimself() {
        String all = "wet 9;foot 0 1 9 0;foot 0 1 9 0;foot 0 1 9 0;foot 0 1 9 0;foot 0 1 9 0;foot 0 1 9 0;walk 0 0 0 1;";
        Check.due("nobody", 18, Check.night(all).print(0, 99, 0, 4));
        Check.due("one", 27, Check.night(all + "carry 0 1;").print(0, 99, 0, 4));
        Check.due("all", 63, Check.night(all + "carry 0 1;carry 0 2;carry 0 3;carry 0 4;carry 0 5;").print(0, 99, 0, 4));
        Check.due("not whom they carry", 27, Check.night(all + "carry 0 1;carry 1 2;carry 2 3;").print(0, 99, 0, 4));
        Check.due("no WET", 1, Check.night("wet 0;foot 0 1 1 0;walk 0 0 0 1;").print(0, 99, 0, 4));
        Check.due("WET at first", 3, Check.night("foot 0 1 1 0;walk 0 0 0 1;").print(0, 99, 0, 4));
    }

    /** Half of that, cut, 1 at least, of the FOOT that LIMPS. */
    private static void depthOfTheFootThatLimps() {
        limps(0, 1, 0, 1, 1);
        limps(0, 1, 1, 1, 1);
        limps(0, 2, 1, 1, 2);
        limps(0, 3, 1, 1, 3);
        limps(0, 3, 2, 3, 1);
        limps(1, 3, 1, 2, 4);
        limps(1, 3, 2, 4, 2);
        limps(9, 9, 1, 9, 18);
        limps(9, 9, 0, 18, 18);
    }

    private static void limps(int wet, int weight, int limp, int right, int left) {
        ClayPrints x = Check.night("wet " + wet + ";foot 0 1 " + weight + " " + limp + ";walk 0 0 0 1 1 1;");
        Check.dueRow("limp " + limp + " of " + (wet + weight), 0, k -> x.print(0, 99, k, 4), right, left, right, left, -2);
    }

    /** (ROLLED: none.) */
    private static void rolledMakesNone() {
        ClayPrints x = Check.night(ONE + ONE + "walk 0 0 0 1 1;walk 1 0 5 1 1;rolled 1;");
        Check.due("prints", 3, x.print(0, 99, -1, 0));
        Check.dueRow("used by the other alone", 0, k -> x.print(0, 99, k, 7), 1, 1, 1, -2);
        Check.dueRow("gait", 0, what -> x.gait(0, 1, what), 0, 0, 0, 0);
        Check.due("but he goes", 2, x.where(0, 1, 7));
    }

    /** If the topmost print of the CELL has the same SOLE, FOOT, SIDE, one steps in it. */
    private static void sameSoleFootAndSide() {
        stepsIn("foot 0 1 1 0;foot 0 1 1 0;walk 0 1 0 1;walk 1 1 5 1;", 2, 0, 2);
        stepsIn("foot 0 1 1 0;foot 1 1 1 0;walk 0 1 0 1;walk 1 1 5 1;", 4, 2, 0);
        stepsIn("foot 0 1 1 0;foot 0 1 1 0;walk 0 1 0 1;walk 1 1 5 2;", 4, 2, 0);
        stepsIn("foot 0 1 1 0;foot 0 1 1 0;walk 0 1 0 1;walk 1 0 5 1 1;", 5, 3, 0);
        stepsIn("foot 0 1 1 0;foot 0 3 9 2;walk 0 1 0 1;walk 1 1 5 1;", 3, 1, 1);
        stepsIn("foot 0 1 1 0;foot 0 1 1 0;walk 0 1 0 1;walk 1 1 5 1;hands 1;", 4, 2, 0);
    }

    private static void stepsIn(String text, int prints, int made, int stepped) {
        ClayPrints x = Check.night(text);
        Check.due("prints of " + text, prints, x.print(0, 99, -1, 0));
        Check.dueRow("gait of " + text, 1, what -> x.gait(0, 1, what), made, stepped, stepped);
    }

    /** The topmost print. */
    private static void topmostPrintAlone() {
        ClayPrints x = Check.night(ONE + "foot 1 1 1 0;" + ONE + "walk 0 0 0 1;walk 1 0 2 1;walk 2 0 4 1;");
        Check.dueRow("three, one over the other", 0, what -> x.gait(0, 2, what), 2, 2, 0, 0);
        Check.due("over", 2, x.print(0, 99, 4, 8));
    }

    /** There is no new print, its DEPTH is the greater one of both. */
    private static void greaterDepthOfBoth() {
        ClayPrints x = Check.night("wet 0;foot 0 1 5 0;foot 0 1 4 0;foot 0 1 5 0;foot 0 1 6 0;"
            + "walk 0 0 0 1;walk 1 0 1 1;walk 2 0 2 1;walk 3 0 3 1;");
        Check.dueRow("depth of print 0", 0, minute -> x.print(0, minute, 0, 4), 5, 5, 5, 6, 6);
        Check.due("maker", 0, x.print(0, 99, 0, 6));
        Check.due("minute", 0, x.print(0, 99, 0, 5));
        Check.due("prints", 2, x.print(0, 99, -1, 0));
    }

    /** One is of those who USE it, too: one, and all. */
    private static void usersOfOnePrint() {
        StringBuilder text = new StringBuilder(ONE.repeat(6));
        for (int p = 0; p < 6; p++) {
            text.append("walk " + p + " 0 " + p + " 1;");
        }
        ClayPrints x = Check.night(text.toString());
        Check.dueRow("users", 0, minute -> x.print(0, minute, 0, 7), 1, 3, 7, 15, 31, 63, 63);
        Check.dueRow("users of the second one", 1, minute -> x.print(0, minute, 1, 7), 1, 3, 7, 15, 31, 63, 63);
    }

    /** Then PEOPLE set FEET down, by numbers. */
    private static void byNumbersInOneMinute() {
        ClayPrints x = Check.night("foot 2 1 1 0;foot 1 1 1 0;foot 0 1 1 0;walk 2 7 3 1;walk 1 8 3 1;walk 0 9 3 1;");
        Check.dueRow("makers", 0, k -> x.print(0, 99, k, 6), 0, 1, 2, 0, 1, 2, -2);
    }

    /** In a RAIN's all prints go; then PEOPLE set FEET down. */
    private static void rainAheadOfFeet() {
        ClayPrints x = Check.night(ONE + "walk 0 0 3 1 1;rain 4;");
        Check.dueRow("prints", 2, minute -> x.print(0, minute, -1, 0), 0, 1, 1, 2, 2);
        Check.dueRow("the first that lies", 0, what -> x.print(0, 4, 0, what), 1, 0, 1, 1, 3, 4, 0, 1, 0);
        ClayPrints y = Check.night(ONE + ONE + "walk 0 0 3 1;walk 1 0 5 1;rain 5;");
        Check.dueRow("nothing to step in", 0, what -> y.gait(0, 1, what), 2, 2, 0, 0);
        Check.due("nor to lie over", 0, y.print(0, 5, 0, 8));
    }

    /** Minute by minute, from 0 on; at DAWN: behind minute 99. */
    private static void rainOfTheFirstAndTheLastMinute() {
        ClayPrints x = Check.night(ONE + "walk 0 0 0 1;rain 0;");
        Check.due("rain 0", 2, x.print(0, 99, -1, 0));
        ClayPrints y = Check.night(ONE + "walk 0 0 0 1;rain 99;");
        Check.due("behind 98", 2, y.print(0, 98, -1, 0));
        Check.due("behind 99", 0, y.print(0, 99, -1, 0));
        Check.due("tax", 0, y.tax(0, 0, -1));
        Check.due("cell", 0, y.cell(0, 99, 0, 0));
        Check.due("dawn", 0, y.dawn(0, 10));
        Check.due("gait", 2, y.gait(0, 0, 1));
        ClayPrints z = Check.night("size 8 8;" + ONE + "walk 0 0 60" + " 1 1 1 1 1 1 2 3 3 3 3 3 3 2 1 1 1 1 1 1 2 3 3 3;rain 84;");
        Check.due("the last FOOT of all", 1, z.print(0, 99, -1, 0));
        Check.due("its minute", 84, z.print(0, 99, 0, 5));
    }

    /** How many it lies OVER. */
    private static void overThoseOfItsCell() {
        ClayPrints x = Check.night("foot 0 1 1 0;foot 1 1 1 0;foot 2 1 1 0;walk 0 0 0 1;walk 1 0 0 2;walk 2 0 5 1;");
        Check.dueRow("cells", 0, k -> x.print(0, 99, k, 0), 0, 0, 1, 6, 0, 1, -2);
        Check.dueRow("over", 0, k -> x.print(0, 99, k, 8), 0, 1, 0, 0, 2, 1, -2);
    }

    // ---- promise 10

    /** How many PRINTS lie there, the topmost one's number (NONE). */
    private static void cellHeightAndTop() {
        ClayPrints x = Check.night("foot 0 1 1 0;foot 1 1 1 0;walk 0 0 3 1;walk 1 0 5 1;");
        Check.dueRow("how many", 2, minute -> x.cell(0, minute, 0, 0), 0, 1, 1, 2, 2);
        Check.dueRow("topmost", 2, minute -> x.cell(0, minute, 0, 1), -1, 0, 0, 2, 2);
        Check.dueRow("of another one", 2, minute -> x.cell(0, minute, 2, 1), -1, -1, -1, -1);
    }

    /** All DEPTHS together; who made or USE any (bits). */
    private static void cellDepthAndUsers() {
        ClayPrints x = Check.night("wet 0;foot 0 1 2 0;foot 1 1 3 0;foot 1 1 7 0;walk 0 0 3 1;walk 1 0 5 1;walk 2 0 6 1;");
        Check.dueRow("depths", 2, minute -> x.cell(0, minute, 0, 2), 0, 2, 2, 5, 9, 9);
        Check.dueRow("users", 2, minute -> x.cell(0, minute, 0, 3), 0, 1, 1, 3, 7, 7);
    }

    /** -2: there is none such (of any). */
    private static void cellNoneSuch() {
        ClayPrints x = Check.night("size 3 5;" + ONE + "walk 0 14 0 1;");
        for (int what = 0; what <= 3; what++) {
            int w = what;
            Check.dueOut("cell, what " + what, -2, cell -> x.cell(0, 99, cell, w), -1, 15, 35, 63, 64);
            Check.dueOut("minute, what " + what, -2, minute -> x.cell(0, minute, 14, w), -1, 100);
        }
        Check.due("cell 14, behind 0", 1, x.cell(0, 0, 14, 0));
        Check.due("cell 14, behind 99", 1, x.cell(0, 99, 14, 0));
        Check.due("cell 0", 0, x.cell(0, 99, 0, 0));
        ClayPrints y = Check.night("size 8 8;" + ONE + "walk 0 63 0 1;");
        Check.due("cell 63", 1, y.cell(0, 99, 63, 0));
        Check.due("cell 64", -2, y.cell(0, 99, 64, 0));
    }

    /** -2: for another what. */
    private static void cellWhat() {
        ClayPrints x = Check.night(ONE + "walk 0 0 0 1;");
        Check.dueOut("cell", -2, what -> x.cell(0, 99, 0, what), -1, 4, 5);
        Check.dueOut("a CELL without prints", -2, what -> x.cell(0, 99, 9, what), -1, 4);
    }

    // ---- promise 11

    /** How many FEET he set down, how many prints he made, how often he stepped in one, in one that another one made. */
    private static void gaitOfNoneAndAll() {
        ClayPrints x = Check.night(ONE + ONE + ONE + "size 4 4;walk 0 5 0 1 0 3 3 2 1;walk 1 5 7 1 1 0 0 0;");
        Check.dueRow("his own and none of another", 0, what -> x.gait(0, 0, what), 7, 6, 1, 0);
        Check.dueRow("another's; none behind the edge", 0, what -> x.gait(0, 1, what), 4, 2, 2, 2);
        Check.dueRow("without a WALK", 0, what -> x.gait(0, 2, what), 0, 0, 0, 0);
        ClayPrints y = Check.night(ONE + "walk 0 0 0 1;rain 1;rain 50;");
        Check.dueRow("till DAWN, whatever lies then", 0, what -> y.gait(0, 0, what), 2, 2, 0, 0);
    }

    /** -2: for another what. */
    private static void gaitWhat() {
        ClayPrints x = Check.night(ONE + "walk 0 0 0 1;");
        Check.dueOut("gait", -2, what -> x.gait(0, 0, what), -1, 4, 5);
    }

    // ---- promise 16

    /** TRAPS of k CELLS, 1 .. 3: those by which most of PEOPLE make or USE one of their prints. */
    private static void trapsOfSomeCells() {
        ClayPrints x = Check.night(ONE + ONE + "foot 1 1 1 0;foot 2 1 1 0;"
            + "walk 0 14 0 1;walk 1 15 4 0;walk 2 30 0 2;walk 3 33 9 2;");
        Check.dueRow("1 CELL", 0, what -> x.traps(0, 1, what), 2, 15);
        Check.dueRow("2 CELLS", 0, what -> x.traps(0, 2, what), 3, 15, 30);
        Check.dueRow("3 CELLS", 0, what -> x.traps(0, 3, what), 4, 15, 30, 33);
        ClayPrints y = Check.night(ONE + ONE + "walk 0 14 0 1;walk 1 14 4 1;rain 5;");
        Check.dueRow("that lie at DAWN", 0, what -> y.traps(0, 1, what), 1, 15);
        ClayPrints z = Check.night(ONE + ONE + "foot 1 1 1 0;walk 0 14 0 1;walk 1 14 4 1;walk 2 20 0 1;");
        Check.dueRow("who USE one", 0, what -> z.traps(0, 1, what), 2, 14);
    }

    private static void trapsInTheFirstAndTheLastCell() {
        ClayPrints x = Check.night("size 8 8;" + ONE + ONE + "walk 0 0 0 0;walk 1 63 0 1;");
        Check.dueRow("1 CELL", 0, what -> x.traps(0, 1, what), 1, 0);
        Check.dueRow("2 CELLS", 0, what -> x.traps(0, 2, what), 2, 0, 63);
        Check.dueRow("3 CELLS", 0, what -> x.traps(0, 3, what), 2, 0, 1, 63);
        ClayPrints y = Check.night("size 8 8;" + ONE + "walk 0 63 0 1;");
        Check.dueRow("1 CELL", 0, what -> y.traps(0, 1, what), 1, 63);
        Check.dueRow("2 CELLS", 0, what -> y.traps(0, 2, what), 1, 0, 63);
        ClayPrints z = Check.night("size 2 2;" + ONE + "walk 0 3 0 1;");
        Check.dueRow("the first row with the last CELL", 0, what -> z.traps(0, 3, what), 1, 0, 1, 3);
    }

    private static void trapsOfNobody() {
        ClayPrints x = Check.night("");
        Check.dueRow("1 of nobody", 0, what -> x.traps(0, 1, what), 0, 0);
        Check.dueRow("2 of nobody", 0, what -> x.traps(0, 2, what), 0, 0, 1);
        Check.dueRow("3 of nobody", 0, what -> x.traps(0, 3, what), 0, 0, 1, 2);
    }

    /** Of several the first by rows (numbers rising). */
    private static void trapsFirstByRows() {
        ClayPrints x = Check.night("size 2 2;" + ONE + ONE + "walk 0 3 0 1;walk 1 2 0 3;");
        Check.dueRow("1", 0, what -> x.traps(0, 1, what), 1, 2);
        Check.dueRow("2", 0, what -> x.traps(0, 2, what), 2, 2, 3);
        Check.dueRow("3", 0, what -> x.traps(0, 3, what), 2, 0, 2, 3);
        ClayPrints y = Check.night("size 8 8;" + ONE.repeat(3) + "walk 0 63 0 1;walk 1 62 0 0;walk 2 61 0 0;rain 1;");
        Check.dueRow("the last CELLS", 0, what -> y.traps(0, 3, what), 2, 0, 53, 54);
        ClayPrints z = Check.night("size 8 8;" + ONE.repeat(3) + "walk 0 63 0 1;walk 1 62 0 2;walk 2 61 0 2;");
        Check.dueRow("the very last", 0, what -> z.traps(0, 3, what), 3, 61, 62, 63);
    }

    /** NONE: another k. */
    private static void trapsRange() {
        ClayPrints x = Check.night("size 2 2;" + ONE + "walk 0 0 0 1;");
        Check.dueOut("traps", -1, k -> x.traps(0, k, 0), -1, 0, 4, 5);
        Check.dueOut("traps, the first", -1, k -> x.traps(0, k, 1), -1, 0, 4, 5);
    }

    /** 1 .. k: the CELLS; NONE for another what. */
    private static void trapsWhat() {
        ClayPrints x = Check.night("size 2 2;" + ONE + "walk 0 0 0 1;");
        Check.dueOut("1", -1, what -> x.traps(0, 1, what), -1, 2, 3, 4);
        Check.dueOut("2", -1, what -> x.traps(0, 2, what), -1, 3, 4);
        Check.dueOut("3", -1, what -> x.traps(0, 3, what), -1, 4, 5);
    }

    // ---- promise 25

    /** DEEPEST (its number; NONE without). */
    private static void dawnOfNothing() {
        ClayPrints x = Check.night(ONE + "walk 0 0 0 1;rain 2;");
        Check.dueRow("all washed away", 0, what -> x.dawn(0, what), 0, 0, -1);
        Check.due("route", 0, x.dawn(0, 10));
    }

    /** HIDDEN: prints that lie under another one. */
    private static void hidden() {
        Check.due("none", 0, Check.night(ONE + "walk 0 0 0 1;").dawn(0, 0));
        Check.due("one", 1, Check.night(ONE + "foot 1 1 1 0;walk 0 0 0 1;walk 1 1 5 1;").dawn(0, 0));
        Check.due("two under one", 4, Check.night(ONE + "foot 1 1 1 0;foot 2 1 1 0;walk 0 0 0 1;walk 1 0 5 1;walk 2 0 7 1;")
            .dawn(0, 0));
        Check.due("of the last CELL", 1, Check.night("size 8 8;" + ONE + "foot 1 1 1 0;walk 0 63 0 1;walk 1 63 5 1;").dawn(0, 0));
    }

    /** TWINS: couples of prints of the same SOLE, FOOT, SIDE in one CELL. */
    private static void twins() {
        String text = "foot 0 1 1 0;foot 1 1 1 0;foot 0 1 1 0;foot 1 1 1 0;foot 0 1 1 0;walk 0 35 0 1;walk 1 35 1 1;walk 2 35 2 1;";
        Check.due("none", 0, Check.night("foot 0 1 1 0;foot 1 1 1 0;walk 0 35 0 1;walk 1 35 1 1;").dawn(0, 1));
        Check.due("a couple", 1, Check.night(text).dawn(0, 1));
        Check.due("another couple", 2, Check.night(text + "walk 3 35 3 1;").dawn(0, 1));
        Check.due("three of the same", 4, Check.night(text + "walk 3 35 3 1;walk 4 35 4 1;").dawn(0, 1));
        Check.due("another SIDE", 1, Check.night(text + "walk 3 35 3 2;").dawn(0, 1));
        Check.due("another CELL", 0, Check.night("foot 0 1 1 0;foot 0 1 1 0;walk 0 35 0 1;walk 1 34 0 3;").dawn(0, 1));
        Check.due("another FOOT", 0, Check.night("size 3 3;foot 0 1 1 0;foot 1 1 1 0;foot 0 1 1 0;"
            + "walk 0 2 0 1;walk 1 2 1 1;walk 2 1 2 1;").dawn(0, 1));
    }

    /** DEEPEST: the print with the greatest DEPTH; of several the first. */
    private static void deepest() {
        String text = "wet 0;foot 0 1 5 2;foot 1 1 6 1;foot 2 1 6 1;walk 0 0 0 1;";
        Check.due("the first", 0, Check.night(text).dawn(0, 2));
        Check.due("a deeper one", 3, Check.night(text + "walk 1 9 7 1;").dawn(0, 2));
        Check.due("of several the first", 4, Check.night(text + "walk 1 9 7 1;walk 2 19 7 1;").dawn(0, 2));
        Check.due("of those that lie", 0, Check.night(text + "walk 1 9 7 1;rain 8;").dawn(0, 2));
    }

    /** ROUTE: how many of the prints that he made lie. */
    private static void route() {
        ClayPrints x = Check.night(ONE + ONE + ONE + "walk 0 0 0 1 1;walk 1 1 5 2;rain 1;");
        Check.dueRow("route", 10, what -> x.dawn(0, what), 2, 2, 0, -2);
        ClayPrints y = Check.night(ONE + ONE + "walk 0 0 0 1;walk 1 0 5 1;");
        Check.dueRow("not whose he USES", 10, what -> y.dawn(0, what), 2, 0, -2);
    }

    /** -2: for another what, 10 + p of one who is not there. */
    private static void dawnWhat() {
        ClayPrints x = Check.night(ONE.repeat(6) + "walk 5 0 0 1;");
        Check.due("the last one", 2, x.dawn(0, 15));
        Check.dueOut("of six", -2, what -> x.dawn(0, what), -1, 3, 4, 8, 9, 16, 17, 20);
        ClayPrints y = Check.night("");
        Check.dueOut("of none", -2, what -> y.dawn(0, what), -1, 3, 9, 10, 11);
    }

    // ---- promise 28

    /** PEOPLE whose CELL it is in any of these, and who made or USE no print there that lies. */
    private static void thieves() {
        String walks = "walk 0 0 5 1 1;walk 1 0 9 1 1;";
        Check.due("maker and user are none", 0, Check.night(ONE + ONE + walks).thieves(0, 1, 0, 99));
        Check.due("rolled", 2, Check.night(ONE + ONE + walks + "rolled 1;").thieves(0, 1, 0, 99));
        Check.due("carried", 2, Check.night(ONE + ONE + walks + "carry 0 1;").thieves(0, 1, 0, 99));
        Check.due("washed away", 3, Check.night(ONE + ONE + walks + "rain 50;").thieves(0, 1, 0, 99));
        Check.due("one washed away", 1, Check.night(ONE + ONE + walks + "rain 10;").thieves(0, 1, 0, 99));
        Check.due("who is not there", 0, Check.night(ONE + ONE + walks + "rain 50;").thieves(0, 3, 0, 99));
        Check.due("no PEOPLE", 0, Check.night("").thieves(0, 0, 0, 99));
    }

    /** Between two minutes, f, t 0 .. 99, f not above t. */
    private static void thievesMinutes() {
        ClayPrints x = Check.night(ONE + "walk 0 0 5 1 1;rolled 0;");
        Check.dueRow("from its minute alone", 4, m -> x.thieves(0, 1, m, m), 0, 0, 1, 0, 0);
        Check.due("up to it", 1, x.thieves(0, 1, 0, 6));
        Check.due("up to the one ahead", 0, x.thieves(0, 1, 0, 5));
        Check.due("from it on", 1, x.thieves(0, 1, 6, 99));
        Check.due("from the one behind", 0, x.thieves(0, 1, 7, 99));
        Check.due("0 and 0", 0, x.thieves(0, 0, 0, 0));
        Check.due("99 and 99", 1, x.thieves(0, 2, 99, 99));
        Check.dueOut("f", -1, f -> x.thieves(0, 2, f, 99), -1, 100);
        Check.dueOut("t", -1, t -> x.thieves(0, 2, 0, t), -1, 100);
        Check.due("f above t", -1, x.thieves(0, 2, 50, 49));
        Check.due("f 99, t 98", -1, x.thieves(0, 2, 99, 98));
        Check.due("f is t", 1, x.thieves(0, 2, 50, 50));
        Check.due("both too large", -1, x.thieves(0, 2, 100, 100));
        Check.due("both too small", -1, x.thieves(0, 2, -1, -1));
    }

    /** NONE: there is none such (CELL). */
    private static void thievesCell() {
        ClayPrints x = Check.night("size 5 3;" + ONE + "walk 0 14 0 1;rolled 0;");
        Check.due("cell 14", 1, x.thieves(0, 14, 0, 99));
        Check.due("cell 0", 0, x.thieves(0, 0, 0, 99));
        Check.dueOut("cell", -1, cell -> x.thieves(0, cell, 0, 99), -1, 15, 63, 64);
    }
}
