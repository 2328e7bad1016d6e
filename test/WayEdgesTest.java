/** Promises 18 and 19 at their edges, a method for each sentence: WAYS and the TOUR. */
public final class WayEdgesTest {
    private static final String ONE = "foot 0 1 1 0;";

    public static void main(String[] args) {
        nothingToDo();
        oneStep();
        fitsByAll();
        topmostAtDawn();
        fewestStepsOfSuch();
        throughTheFirstCellAgain();
        firstByRowsOfSides();
        fortySteps();
        noMoreThanFortySteps();
        noneByStride();
        noneByTheSquare();
        wayCells();
        wayWhat();
        wayTellsNothing();
        noErrands();
        oneErrand();
        mostErrands();
        nothingToDoOnATour();
        printsLieForTheNext();
        fewestOfAllOrders();
        ordersByRows();
        noTourWithoutAWay();
        tourWhat();
        tourAtDawn();
        Check.close();
    }

    private static void way(ClayPrints x, int p, int from, int to, int prints, int... sides) {
        String call = "WAY of " + p + " from " + from + " to " + to;
        Check.due(call + ": new prints", prints, x.way(0, p, from, to, 0));
        Check.due(call + ": STEPS", sides.length, x.way(0, p, from, to, 1));
        for (int i = 0; i < sides.length; i++) {
            Check.due(call + ": side " + i, sides[i], x.way(0, p, from, to, 10 + i));
        }
        Check.dueOut(call, -1, what -> x.way(0, p, from, to, what), -1, 2, 9, 10 + sides.length, 11 + sides.length, 50);
    }

    private static void noWay(ClayPrints x, int p, int from, int to) {
        Check.dueAt("no WAY of " + p + " from " + from + " to " + to, -1, what -> x.way(0, p, from, to, what), 0, 1, 2, 10, 11);
    }

    /** Unless both are one: then there is nothing to do. */
    private static void nothingToDo() {
        ClayPrints x = Check.night("size 3 2;" + ONE + "foot 0 3 1 0;walk 0 1 0 1;");
        for (int cell = 0; cell < 6; cell++) {
            way(x, 0, cell, cell, 0);
            way(x, 1, cell, cell, 0);
        }
    }

    /** The first one in the first CELL, too. */
    private static void oneStep() {
        ClayPrints x = Check.night("size 8 8;" + ONE + ONE + "walk 0 9 0 1;walk 0 20 0 1;");
        way(x, 1, 9, 10, 2, 1);
        way(x, 1, 10, 9, 2, 3);
        way(x, 1, 18, 10, 2, 0);
        way(x, 1, 10, 18, 2, 2);
        way(x, 1, 20, 21, 0, 1);
        way(x, 1, 20, 28, 2, 2);
        way(x, 1, 21, 22, 2, 1);
    }

    /** Each that does not fit (SOLE, FOOT, SIDE) is a new print. */
    private static void fitsByAll() {
        String text = "size 6 6;foot 2 1 1 0;foot 2 1 9 2;foot 3 1 1 0;walk 0 7 0 1 1 1;";
        ClayPrints x = Check.night(text);
        way(x, 0, 7, 10, 0, 1, 1, 1);
        way(x, 1, 7, 10, 0, 1, 1, 1);
        way(x, 2, 7, 10, 4, 1, 1, 1);
        way(x, 0, 8, 10, 3, 1, 1);
        way(x, 0, 9, 10, 0, 1);
        way(x, 0, 8, 9, 2, 1);
        way(x, 0, 10, 9, 2, 3);
        way(x, 0, 7, 16, 1, 1, 1, 1, 2);
        ClayPrints onHands = Check.night(text + "hands 0;");
        way(onHands, 0, 7, 10, 4, 1, 1, 1);
    }

    /** The topmost print of its CELL as it lies at DAWN. */
    private static void topmostAtDawn() {
        String text = "size 6 6;foot 2 1 1 0;foot 3 1 1 0;walk 0 7 0 1;";
        way(Check.night(text), 0, 7, 8, 0, 1);
        way(Check.night(text + "walk 1 7 5 1;"), 0, 7, 8, 2, 1);
        way(Check.night(text + "walk 1 7 5 1;"), 1, 7, 8, 0, 1);
        way(Check.night(text + "walk 1 7 5 0;"), 0, 7, 8, 1, 1);
        way(Check.night(text + "rain 1;"), 0, 7, 8, 1, 1);
        way(Check.night(text + "rain 99;"), 0, 7, 8, 2, 1);
    }

    /** The fewest new prints; of such the fewest STEPS. */
    private static void fewestStepsOfSuch() {
        ClayPrints x = Check.night("size 6 6;" + ONE + "walk 0 0 0 1 2 2 3;");
        way(x, 0, 0, 12, 0, 1, 2, 2, 3);
        way(x, 0, 0, 6, 1, 1, 2, 3);
        ClayPrints y = Check.night("size 6 6;" + ONE + "walk 0 0 0 1 2 2 3;rain 1;");
        way(y, 0, 0, 12, 1, 1, 2, 2, 3);
        ClayPrints z = Check.night("size 6 6;" + ONE + "walk 0 0 0 1 2 2 3;rain 2;");
        way(z, 0, 0, 12, 2, 1, 2, 2, 3);
        ClayPrints w = Check.night("size 6 6;" + ONE + "walk 0 0 0 1 2 2 3;rain 3;");
        way(w, 0, 0, 12, 3, 2, 2);
    }

    /** The first FOOT has the SIDE of the first STEP, so a round may make fewer new prints. */
    private static void throughTheFirstCellAgain() {
        ClayPrints x = Check.night("size 4 4;" + ONE + "walk 0 5 0 1 0 3 3 2 1 2;");
        way(x, 0, 5, 9, 0, 1, 0, 3, 3, 2, 1, 2);
        way(x, 0, 5, 13, 1, 1, 0, 3, 3, 2, 1, 2, 2);
    }

    /** Of such the first by rows of sides. */
    private static void firstByRowsOfSides() {
        ClayPrints x = Check.night("size 3 3;" + ONE);
        way(x, 0, 0, 8, 5, 1, 1, 2, 2);
        way(x, 0, 8, 0, 5, 0, 0, 3, 3);
        way(x, 0, 2, 6, 5, 2, 2, 3, 3);
        way(x, 0, 6, 2, 5, 0, 0, 1, 1);
        way(x, 0, 4, 0, 3, 0, 3);
        way(x, 0, 4, 2, 3, 0, 1);
        way(x, 0, 4, 6, 3, 2, 3);
        way(x, 0, 4, 8, 3, 1, 2);
    }

    // ---- at most 40 STEPS

    /** East along a row, south, west along the next one .. */
    private static int[] snake(int steps) {
        int[] sides = new int[steps];
        for (int i = 0; i < steps; i++) {
            sides[i] = i % 8 == 7 ? 2 : i / 8 % 2 == 0 ? 1 : 3;
        }
        return sides;
    }

    private static int cellAfter(int[] sides) {
        int cell = 0;
        for (int side : sides) {
            cell += side == 1 ? 1 : side == 2 ? 8 : -1;
        }
        return cell;
    }

    /** The prints of a snake, by one up to step 20 and by another one from there on. */
    private static ClayPrints snaked(int steps) {
        StringBuilder text = new StringBuilder("size 8 8;" + ONE + ONE + "walk 0 0 0");
        int[] sides = snake(steps);
        for (int i = 0; i < steps; i++) {
            text.append(i == 20 ? ";walk 1 " + cellAfter(snake(20)) + " 20 " : " ").append(sides[i]);
        }
        return Check.night(text.append(";").toString());
    }

    /** At most 40 STEPS: 39 and 40 are in. */
    private static void fortySteps() {
        way(snaked(39), 0, 0, cellAfter(snake(39)), 0, snake(39));
        way(snaked(40), 0, 0, cellAfter(snake(40)), 0, snake(40));
    }

    /** 41 and more are not: one cuts a corner by one new print. */
    private static void noMoreThanFortySteps() {
        way(snaked(41), 0, 0, cellAfter(snake(41)), 1, 1, 1, 1, 1, 1, 1, 1, 2, 2, 2, 3, 3, 3, 3, 3, 3, 3, 2, 1, 1, 1, 1, 1, 1, 1, 2, 3);
        ClayPrints x = snaked(42);
        Check.due("42 STEPS, by one new print", 1, x.way(0, 0, 0, cellAfter(snake(42)), 0));
        Check.due("42 STEPS, fewer", 28, x.way(0, 0, 0, cellAfter(snake(42)), 1));
    }

    // ---- NONE

    private static void noneByStride() {
        ClayPrints x = Check.night("size 8 8;foot 0 2 1 0;foot 0 3 1 0;");
        noWay(x, 0, 0, 1);
        noWay(x, 0, 0, 8);
        noWay(x, 0, 0, 63);
        way(x, 0, 0, 2, 2, 1);
        way(x, 0, 0, 54, 7, 1, 1, 1, 2, 2, 2);
        noWay(x, 1, 0, 1);
        noWay(x, 1, 0, 2);
        way(x, 1, 0, 3, 2, 1);
        way(x, 1, 63, 60, 2, 3);
    }

    private static void noneByTheSquare() {
        ClayPrints x = Check.night("size 2 2;foot 0 2 1 0;foot 0 3 1 0;");
        for (int to = 1; to < 4; to++) {
            noWay(x, 0, 0, to);
            noWay(x, 1, 0, to);
        }
        ClayPrints y = Check.night("size 3 4;foot 0 3 1 0;");
        way(y, 0, 0, 9, 2, 2);
        noWay(y, 0, 3, 0);
        noWay(y, 0, 3, 6);
    }

    /** There is none such (CELL). */
    private static void wayCells() {
        ClayPrints x = Check.night("size 3 5;" + ONE);
        way(x, 0, 0, 14, 7, 1, 1, 2, 2, 2, 2);
        way(x, 0, 14, 0, 7, 0, 0, 0, 0, 3, 3);
        for (int what : new int[] {0, 1, 10}) {
            Check.dueOut("from", -1, from -> x.way(0, 0, from, 0, what), -1, 15, 35, 63, 64);
            Check.dueOut("to", -1, to -> x.way(0, 0, 0, to, what), -1, 15, 35, 63, 64);
            Check.dueOut("both", -1, cell -> x.way(0, 0, cell, cell, what), -1, 15, 35, 63, 64);
        }
    }

    /** NONE for another what. */
    private static void wayWhat() {
        ClayPrints x = Check.night(ONE);
        Check.dueOut("of 2 STEPS", -1, what -> x.way(0, 0, 0, 2, what), -1, 2, 3, 8, 9, 12, 13, 20);
        Check.dueOut("of no STEPS", -1, what -> x.way(0, 0, 0, 0, what), -1, 2, 9, 10, 11);
    }

    private static void wayTellsNothing() {
        ClayPrints x = Check.night(ONE);
        way(x, 0, 0, 2, 3, 1, 1);
        way(x, 0, 0, 2, 3, 1, 1);
        Check.due("prints", 0, x.print(0, 99, -1, 0));
    }

    // ---- promise 19

    private static void tour(ClayPrints x, int prints, int steps, int... order) {
        Check.due("TOUR: new prints", prints, x.tour(0, 0));
        Check.due("TOUR: STEPS", steps, x.tour(0, 1));
        for (int i = 0; i < order.length; i++) {
            Check.due("TOUR: ERRAND " + i, order[i], x.tour(0, 10 + i));
        }
        Check.dueOut("TOUR", -1, what -> x.tour(0, what), -1, 2, 9, 10 + order.length, 15, 16, 20);
    }

    private static void noTour(String text) {
        ClayPrints x = Check.night(text);
        Check.dueAt("no TOUR of " + text, -1, what -> x.tour(0, what), -1, 0, 1, 2, 9, 10, 11, 12, 13, 14, 15);
    }

    /** NONE: there are no ERRANDS (10 + i). */
    private static void noErrands() {
        tour(Check.night(""), 0, 0);
        tour(Check.night(ONE + "walk 0 0 0 1;"), 0, 0);
    }

    private static void oneErrand() {
        tour(Check.night(ONE + "errand 0 0 35;"), 11, 10, 0);
        tour(Check.night(ONE + "errand 0 0 1;walk 0 0 0 1;"), 0, 1, 0);
        tour(Check.night(ONE + "errand 0 0 2;walk 0 0 0 1;"), 1, 2, 0);
    }

    private static void mostErrands() {
        ClayPrints x = Check.night("foot 0 1 1 0;errand 0 0 1;errand 0 0 2;errand 0 0 3;errand 0 0 4;errand 0 0 5;");
        tour(x, 6, 15, 0, 1, 2, 3, 4);
        ClayPrints y = Check.night(ONE.repeat(6)
            + "errand 5 0 1;errand 4 6 7;errand 3 12 13;errand 2 18 19;errand 1 24 25;");
        tour(y, 10, 5, 0, 1, 2, 3, 4);
    }

    private static void nothingToDoOnATour() {
        tour(Check.night(ONE + "errand 0 7 7;"), 0, 0, 0);
        tour(Check.night("foot 0 3 1 0;" + "errand 0 7 7;".repeat(5)), 0, 0, 0, 1, 2, 3, 4);
    }

    /** Whose prints lie for the next ones. */
    private static void printsLieForTheNext() {
        tour(Check.night(ONE + "errand 0 0 2;errand 0 0 2;"), 3, 4, 0, 1);
        tour(Check.night(ONE + ONE + "errand 0 0 2;errand 1 0 2;"), 3, 4, 0, 1);
        tour(Check.night(ONE + "foot 1 1 1 0;errand 0 0 2;errand 1 0 2;"), 6, 4, 0, 1);
        // Between the two of one SOLE the other one's would cover the prints.
        tour(Check.night(ONE + "foot 1 1 1 0;errand 0 0 2;errand 1 0 2;errand 0 0 2;"), 6, 6, 0, 2, 1);
    }

    /** The order by which fewest new prints are made. */
    private static void fewestOfAllOrders() {
        // 1 steps in the told prints, if 0 does not cover them first.
        tour(Check.night("size 8 2;" + ONE + "foot 1 1 1 0;walk 0 0 0 1 1 1;errand 1 3 0;errand 0 0 3;"), 4, 6, 1, 0);
        String text = ONE + "foot 1 1 1 0;walk 0 0 0 1 1 1;walk 1 12 0 1 1 1;";
        tour(Check.night(text + "errand 1 0 3;errand 0 0 3;errand 0 12 15;errand 1 12 15;"), 8, 12, 1, 0, 3, 2);
    }

    /** Of several the first by rows. */
    private static void ordersByRows() {
        tour(Check.night(ONE + "errand 0 8 8;errand 0 0 0;errand 0 4 4;"), 0, 0, 0, 1, 2);
        tour(Check.night(ONE + "errand 0 0 3;errand 0 0 1;"), 4, 4, 0, 1);
        tour(Check.night(ONE + "errand 0 0 1;errand 0 0 3;"), 4, 4, 0, 1);
        // 2 goes last, so that 0 and 1 find the told prints; 0 is the first of these.
        tour(Check.night(ONE + "foot 1 1 1 0;walk 0 0 0 1 1;errand 0 0 2;errand 0 0 1;errand 1 0 2;"), 3, 5, 0, 1, 2);
        tour(Check.night(ONE + "foot 1 1 1 0;walk 0 0 0 1 1;errand 1 0 2;errand 0 0 1;errand 0 0 2;"), 3, 5, 1, 2, 0);
    }

    /** (A WAY that is none: there is no TOUR.) */
    private static void noTourWithoutAWay() {
        noTour(ONE + "foot 0 2 1 0;errand 1 0 1;");
        noTour(ONE + "foot 0 2 1 0;errand 1 0 1;errand 0 0 1;errand 0 0 1;");
        noTour(ONE + "foot 0 2 1 0;errand 0 0 1;errand 0 0 1;errand 1 0 1;");
        noTour(ONE + "foot 0 2 1 0;errand 0 0 1;errand 0 0 1;errand 0 0 1;errand 0 0 1;errand 1 0 1;");
        tour(Check.night(ONE + "foot 0 2 1 0;errand 0 0 1;errand 1 0 2;"), 3, 2, 0, 1);
    }

    /** NONE for another what. */
    private static void tourWhat() {
        ClayPrints x = Check.night(ONE + "errand 0 0 1;errand 0 6 7;");
        Check.dueOut("of 2 ERRANDS", -1, what -> x.tour(0, what), -1, 2, 3, 8, 9, 12, 13, 20);
        ClayPrints y = Check.night(ONE + "errand 0 0 1;".repeat(5));
        Check.due("the last ERRAND", 4, y.tour(0, 14));
        Check.dueOut("of 5 ERRANDS", -1, what -> y.tour(0, what), -1, 2, 9, 15);
    }

    private static void tourAtDawn() {
        ClayPrints x = Check.night(ONE + "walk 0 0 0 1 1 1;rain 2;errand 0 0 3;");
        tour(x, 2, 3, 0);
        Check.due("nothing is told by it", 2, x.print(0, 99, -1, 0));
        tour(x, 2, 3, 0);
    }
}
