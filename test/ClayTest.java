/** Promises 9 to 11, 16, 25 and 28: prints, cells, gaits, traps, what lies at dawn, thieves. */
public final class ClayTest {
    public static void main(String[] args) {
        onePrint();
        feetInTurns();
        depths();
        leavingTheSquare();
        steppingIn();
        ownPrint();
        overAndOver();
        rain();
        whoMakesNone();
        cells();
        traps();
        dawn();
        thieves();
        Check.close();
    }

    private static void onePrint() {
        ClayPrints x = Check.night("size 4 3;wet 3;foot 4 2 5 0;walk 0 6 7 3;");
        Check.due("ahead", 0, x.print(0, 6, -1, 0));
        Check.due("first", 1, x.print(0, 7, -1, 0));
        Check.due("second", 2, x.print(0, 8, -1, 0));
        Check.dueRow("print 0", -1, what -> x.print(0, 8, 0, what), -2, 6, 4, 0, 3, 8, 7, 0, 1, 0, -2);
        Check.dueRow("print 1", -1, what -> x.print(0, 8, 1, what), -2, 4, 4, 1, 3, 8, 8, 0, 1, 0, -2);
        Check.due("print 2", -2, x.print(0, 99, 2, 0));
        Check.due("print 1 ahead", -2, x.print(0, 7, 1, 0));
        Check.due("how many, what 1", -2, x.print(0, 99, -1, 1));
    }

    private static void feetInTurns() {
        ClayPrints x = Check.night("size 3 3;foot 1 1 1 0;walk 0 0 0 1 2 2 3;");
        Check.dueRow("cells", 0, k -> x.print(0, 99, k, 0), 0, 1, 4, 7, 6, -2);
        Check.dueRow("feet", 0, k -> x.print(0, 99, k, 2), 0, 1, 0, 1, 0, -2);
        Check.dueRow("sides", 0, k -> x.print(0, 99, k, 3), 1, 1, 2, 2, 3, -2);
        Check.dueRow("minutes", 0, k -> x.print(0, 99, k, 5), 0, 1, 2, 3, 4, -2);
    }

    private static void depths() {
        ClayPrints x = Check.night("size 3 3;wet 2;foot 0 1 5 1;foot 0 1 9 2;foot 0 1 4 0;walk 0 0 0 1;walk 1 6 0 1;");
        Check.dueRow("limping", 0, k -> x.print(0, 99, k, 4), 3, 11, 7, 5, -2);
        ClayPrints y = Check.night("wet 0;foot 0 1 1 1;walk 0 0 0 1;");
        Check.dueRow("1 at least", 0, k -> y.print(0, 99, k, 4), 1, 1, -2);
        ClayPrints z = Check.night("wet 1;foot 0 1 5 2;foot 0 1 9 0;foot 0 1 4 0;foot 0 1 3 0;"
            + "walk 0 0 0 1;carry 0 1;carry 0 2;carry 1 3;walk 3 6 0 1;hands 0;");
        Check.dueRow("with those he carries himself", 0, k -> z.print(0, 99, k, 4), 19, 9, -2);
        Check.dueRow("on hands", 0, k -> z.print(0, 99, k, 1), 6, 6, -2);
    }

    private static void leavingTheSquare() {
        ClayPrints x = Check.night("size 5 3;foot 0 2 1 0;walk 0 2 0 1 1 3 3 3;");
        Check.dueRow("cells", 0, k -> x.print(0, 99, k, 0), 2, 4, -2);
        Check.due("made", 1, x.person(0, 0, 9));
        Check.due("where", 4, x.where(0, 0, 3));
        ClayPrints y = Check.night("size 5 3;foot 0 2 1 0;walk 0 2 0 2 0;walk 0 2 0 0 1;");
        Check.dueRow("the first print", 0, what -> y.print(0, 99, 0, what), 2, 0, 0, 0);
        Check.due("one alone", 1, y.print(0, 99, -1, 0));
        Check.due("no way round the east", 1, Check.night("foot 0 1 1 0;walk 0 5 0 1 1;").print(0, 99, -1, 0));
        Check.due("no way round the west", 1, Check.night("foot 0 1 1 0;walk 0 6 0 3;").print(0, 99, -1, 0));
        Check.due("no way out south", 1, Check.night("foot 0 3 1 0;walk 0 18 0 2;").print(0, 99, -1, 0));
    }

    private static void steppingIn() {
        ClayPrints x = Check.night("wet 1;foot 0 1 2 0;foot 0 1 8 0;foot 0 1 1 0;foot 1 1 1 0;"
            + "walk 0 0 0 1;walk 1 0 1 1;walk 2 0 2 1;walk 3 0 9 1;");
        Check.dueRow("depth of print 0", 0, minute -> x.print(0, minute, 0, 4), 3, 9, 9);
        Check.dueRow("users of print 0", 0, minute -> x.print(0, minute, 0, 7), 1, 3, 7);
        Check.due("maker stays", 0, x.print(0, 99, 0, 6));
        Check.due("minute stays", 0, x.print(0, 99, 0, 5));
        Check.due("another sole", 4, x.print(0, 99, -1, 0));
        Check.dueRow("gait 0", 0, what -> x.gait(0, 0, what), 2, 2, 0, 0, -2);
        Check.dueRow("gait 1", 0, what -> x.gait(0, 1, what), 2, 0, 2, 2, -2);
        Check.dueRow("gait 3", 0, what -> x.gait(0, 3, what), 2, 2, 0, 0, -2);
        Check.due("another foot", 3, Check.night("foot 0 1 1 0;foot 0 1 1 0;walk 0 0 0 1;walk 1 1 5 1;walk 1 1 5 2;")
            .print(0, 99, -1, 0) - 1);
        ClayPrints y = Check.night("foot 0 1 1 0;foot 0 1 1 0;walk 0 0 0 1;walk 1 0 0 1;");
        Check.due("in one minute, by numbers", Check.bits(0, 1), y.print(0, 0, 0, 7));
    }

    private static void ownPrint() {
        ClayPrints x = Check.night("size 4 4;foot 0 1 1 0;walk 0 5 0 1 0 3 3 2 1;");
        Check.dueRow("gait", -1, what -> x.gait(0, 0, what), -2, 7, 6, 1, 0, -2);
    }

    private static void overAndOver() {
        ClayPrints x = Check.night("foot 0 1 1 0;foot 1 1 1 0;foot 2 1 9 0;"
            + "walk 0 0 0 1;walk 1 0 3 1;walk 2 0 6 1;");
        Check.dueRow("over", 0, k -> x.print(0, 99, k, 8), 0, 0, 1, 1, 2, 2, -2);
        Check.dueRow("dawn", 0, what -> x.dawn(0, what), 4, 0, 4, -2);
        ClayPrints y = Check.night("foot 0 1 1 0;foot 1 1 1 0;foot 0 1 1 0;"
            + "walk 0 0 0 1;walk 1 0 3 1;walk 2 0 6 1;");
        Check.due("only the topmost print is stepped in", 6, y.print(0, 99, -1, 0));
        Check.due("twins", 2, y.dawn(0, 1));
    }

    private static void rain() {
        ClayPrints x = Check.night("foot 0 1 1 0;walk 0 0 3 1 1 1 1;rain 5;rain 0;rain 99;");
        Check.dueRow("behind", 2, minute -> x.print(0, minute, -1, 0), 0, 1, 2, 1, 2, 3, 3);
        Check.due("behind 98", 3, x.print(0, 98, -1, 0));
        Check.due("at dawn", 0, x.print(0, 99, -1, 0));
        Check.dueRow("gait counts what is washed away", 0, what -> x.gait(0, 0, what), 5, 5, 0, 0);
        Check.dueRow("dawn", 0, what -> x.dawn(0, what), 0, 0, -1, -2);
        Check.due("route", 0, x.dawn(0, 10));
        Check.due("tax", 0, x.tax(0, 0, 0));
        ClayPrints y = Check.night("foot 0 1 1 0;foot 0 1 1 0;walk 0 0 0 1;walk 1 0 9 1;rain 9;");
        Check.due("what is washed away can't be used", 2, y.gait(0, 1, 1));
        Check.due("nor lies", 2, y.print(0, 99, -1, 0));
        Check.due("first of those that lie", 1, y.print(0, 99, 0, 6));
    }

    private static void whoMakesNone() {
        ClayPrints x = Check.night("foot 0 1 1 0;foot 0 1 1 0;foot 0 1 1 0;"
            + "walk 0 0 0 1;walk 1 6 0 1;walk 2 12 0 1;rolled 0;carry 2 1;");
        Check.due("rolled and carried", 2, x.print(0, 99, -1, 0));
        Check.dueRow("rolled", 0, what -> x.gait(0, 0, what), 0, 0, 0, 0);
        Check.dueRow("carried", 0, what -> x.gait(0, 1, what), 0, 0, 0, 0);
        Check.dueRow("carrier", 0, what -> x.gait(0, 2, what), 2, 2, 0, 0);
        ClayPrints y = Check.night("foot 0 1 1 0;foot 0 1 1 0;foot 0 1 1 0;walk 1 6 0 1;carry 0 1;carry 1 2;walk 2 0 0 1;");
        Check.due("carried by one who is", 0, y.print(0, 99, -1, 0));
    }

    private static void cells() {
        ClayPrints x = Check.night("wet 0;foot 0 1 2 0;foot 1 1 8 0;foot 1 1 9 0;"
            + "walk 0 0 0 1;walk 1 0 3 1;walk 2 0 6 1;");
        Check.dueRow("cell 0 at first", -1, what -> x.cell(0, 0, 0, what), -2, 1, 0, 2, 1, -2);
        Check.dueRow("cell 0", 0, what -> x.cell(0, 99, 0, what), 2, 2, 11, 7, -2);
        Check.dueRow("cell 1", 0, what -> x.cell(0, 99, 1, what), 2, 3, 11, 7, -2);
        Check.dueRow("cell 2", 0, what -> x.cell(0, 99, 2, what), 0, -1, 0, 0, -2);
    }

    private static void traps() {
        ClayPrints x = Check.night("foot 0 1 1 0;foot 1 1 1 0;foot 2 1 1 0;foot 3 1 1 0;"
            + "walk 0 9 0 1;walk 1 10 5 1;walk 2 20 0 1;walk 3 31 0 1;");
        Check.dueRow("1", -1, what -> x.traps(0, 1, what), -1, 2, 10, -1);
        Check.dueRow("2", -1, what -> x.traps(0, 2, what), -1, 3, 10, 20, -1);
        Check.dueRow("3", -1, what -> x.traps(0, 3, what), -1, 4, 10, 20, 31, -1);
        Check.due("0", -1, x.traps(0, 0, 0));
        Check.due("4", -1, x.traps(0, 4, 0));
        Check.due("night 1", -1, x.traps(1, 1, 0));
        ClayPrints y = Check.night("size 2 2;");
        Check.dueRow("of nobody", 0, what -> y.traps(0, 3, what), 0, 0, 1, 2, -1);
        ClayPrints z = Check.night("foot 0 1 1 0;walk 0 7 0 1;");
        Check.dueRow("the first by rows", 0, what -> z.traps(0, 2, what), 1, 0, 7, -1);
    }

    private static void dawn() {
        ClayPrints x = Check.night("wet 0;foot 0 1 2 0;foot 1 1 8 0;walk 0 0 0 1 1;walk 1 1 9 1;");
        Check.dueRow("dawn", -1, what -> x.dawn(0, what), -2, 2, 0, 3, -2);
        Check.dueRow("route", 9, what -> x.dawn(0, what), -2, 3, 2, -2);
        Check.due("night 1", -2, x.dawn(1, 0));
        Check.due("night -1", -2, x.dawn(-1, 0));
        ClayPrints y = Check.night("");
        Check.dueRow("nothing", 0, what -> y.dawn(0, what), 0, 0, -1, -2);
    }

    private static void thieves() {
        ClayPrints x = Check.night("foot 0 1 1 0;foot 1 1 1 0;foot 2 1 1 0;foot 0 1 1 0;"
            + "walk 0 0 0 1 1;walk 1 0 3 1;walk 3 0 9 1;rolled 1;carry 0 2;");
        Check.due("carried in minute 1", Check.bits(2), x.thieves(0, 1, 1, 1));
        Check.due("nobody in minute 2", 0, x.thieves(0, 1, 2, 2));
        Check.due("rolled from minute 4 on", Check.bits(1), x.thieves(0, 1, 2, 4));
        Check.due("all the night", Check.bits(1, 2), x.thieves(0, 1, 0, 99));
        Check.due("users are none", Check.bits(1, 2), x.thieves(0, 0, 0, 99));
        ClayPrints y = Check.night("foot 0 1 1 0;walk 0 0 0 1 1;rain 2;");
        Check.due("washed away", Check.bits(0), y.thieves(0, 0, 0, 0));
        Check.due("not washed away", 0, y.thieves(0, 2, 0, 99));
        Check.due("cell 36", -1, x.thieves(0, 36, 0, 1));
        Check.due("cell -1", -1, x.thieves(0, -1, 0, 1));
        Check.due("f above t", -1, x.thieves(0, 0, 2, 1));
        Check.due("f -1", -1, x.thieves(0, 0, -1, 1));
        Check.due("t 100", -1, x.thieves(0, 0, 0, 100));
        Check.due("night 1", -1, x.thieves(1, 0, 0, 1));
    }
}
