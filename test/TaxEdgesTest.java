/** Promises 12 to 15, 24, 26 and 27 at their edges, a method for each sentence: TAX, FAIR parts, ALONE, PAYS, what would be. */
public final class TaxEdgesTest {
    private static final String ONE = "foot 0 1 1 0;";

    public static void main(String[] args) {
        taxOfNothing();
        taxByEachLaw();
        taxOfAll();
        taxOfPrintsThatLie();
        taxLaw();
        taxNobody();
        fairOfNothing();
        fairByHowManyUse();
        fairInLeastTerms();
        fairByEachCommonDivisor();
        fairOfPrintsThatLie();
        aloneOfOneWhoDoesNotWalk();
        aloneWithWhomHeCarries();
        aloneAtDawn();
        leavesIfLess();
        leavesOfNobody();
        paysMost();
        paysOfNobody();
        paysLaw();
        yieldOfSeveral();
        drawnChances();
        drawnFirstAndLastMinute();
        drawnBesides();
        drawnSeeds();
        drawnRange();
        drawnWhat();
        falseOfTwo();
        falseOfOneWhoCarries();
        falseOfOne();
        shoesOfSix();
        shoesOfSeveral();
        hourFirstAndLast();
        hourOfSeveral();
        hourWithoutAWalk();
        Check.close();
    }

    // ---- promise 12

    private static void taxOfNothing() {
        ClayPrints x = Check.night(ONE);
        Check.dueRow("without a WALK", 0, law -> x.tax(0, law, 0), 0, 0, 0);
        Check.dueRow("of all", 0, law -> x.tax(0, law, -1), 0, 0, 0);
        ClayPrints y = Check.night(ONE + ONE + "walk 0 0 0 1;walk 1 0 0 1;");
        Check.dueRow("who only steps in another's", 0, law -> y.tax(0, law, 1), 0, 0, 0);
    }

    /** FOOT (0): 1 each, YARD (1): his STRIDE each, DEPTH (2): its DEPTH. */
    private static void taxByEachLaw() {
        ClayPrints x = Check.night("wet 9;foot 0 3 9 0;foot 5 1 1 1;foot 0 2 3 0;"
            + "walk 0 0 0 1;walk 1 0 9 2;walk 2 0 20 1;size 8 8;");
        Check.dueRow("of 0", 0, law -> x.tax(0, law, 0), 2, 6, 36);
        Check.dueRow("of 1", 0, law -> x.tax(0, law, 1), 2, 2, 15);
        Check.dueRow("of 2", 0, law -> x.tax(0, law, 2), 2, 4, 24);
        ClayPrints y = Check.night("wet 0;foot 0 1 1 0;foot 0 3 9 0;walk 0 0 0 1;walk 1 0 5 1;size 3 3;");
        Check.dueRow("of its maker, as deep as its user", 0, law -> y.tax(0, law, 0), 2, 2, 10);
        Check.dueRow("of its user", 0, law -> y.tax(0, law, 1), 0, 0, 0);
    }

    /** Of one by a LAW, or (person NONE) of all. */
    private static void taxOfAll() {
        ClayPrints x = Check.night("wet 1;foot 0 3 4 0;foot 5 2 1 0;walk 0 0 0 1;walk 1 20 0 1;");
        Check.dueRow("by FOOT", -2, p -> x.tax(0, 0, p), -1, 4, 2, 2, -1);
        Check.dueRow("by YARD", -2, p -> x.tax(0, 1, p), -1, 10, 6, 4, -1);
        Check.dueRow("by DEPTH", -2, p -> x.tax(0, 2, p), -1, 14, 10, 4, -1);
    }

    /** TAX at DAWN. */
    private static void taxOfPrintsThatLie() {
        ClayPrints x = Check.night("wet 1;foot 0 1 4 0;walk 0 0 0 1 1 1;rain 2;");
        Check.dueRow("behind a RAIN", 0, law -> x.tax(0, law, 0), 2, 2, 10);
        Check.dueRow("of all", 0, law -> x.tax(0, law, -1), 2, 2, 10);
    }

    /** A LAW, 0 .. 2; NONE: there is none such. */
    private static void taxLaw() {
        ClayPrints x = Check.night(ONE + "walk 0 0 0 1;");
        Check.dueOut("of one", -1, law -> x.tax(0, law, 0), -1, 3, 4);
        Check.dueOut("of all", -1, law -> x.tax(0, law, -1), -1, 3, 4);
    }

    private static void taxNobody() {
        ClayPrints x = Check.night("");
        Check.dueRow("of all", 0, law -> x.tax(0, law, -1), 0, 0, 0);
        Check.dueOut("of one", -1, p -> x.tax(0, 0, p), 0, 1, -2);
    }

    // ---- promise 13

    private static void fair(ClayPrints x, int p, int over, int under) {
        Check.due("FAIR part of " + p + ", over", over, x.fair(0, p, false));
        Check.due("FAIR part of " + p + ", under", under, x.fair(0, p, true));
    }

    /** 0 / 1 of nothing. */
    private static void fairOfNothing() {
        fair(Check.night(ONE), 0, 0, 1);
        fair(Check.night(ONE + "walk 0 0 0 1;rain 9;"), 0, 0, 1);
        fair(Check.night(ONE + "walk 0 0 0 1;rolled 0;"), 0, 0, 1);
    }

    /** Of each print that he USES, 1 by how many USE it: from one to six. */
    private static void fairByHowManyUse() {
        for (int users = 1; users <= 6; users++) {
            StringBuilder text = new StringBuilder("size 2 2;" + "foot 0 3 1 0;".repeat(6));
            for (int p = 0; p < users; p++) {
                text.append("walk " + p + " 3 " + p + " 1;");
            }
            ClayPrints x = Check.night(text.toString());
            for (int p = 0; p < 6; p++) {
                fair(x, p, p < users ? 1 : 0, p < users ? users : 1);
            }
        }
    }

    /** Together: a fraction in least terms. */
    private static void fairInLeastTerms() {
        fair(Check.night(ONE + "walk 0 0 0 1;"), 0, 2, 1);
        ClayPrints halves = Check.night(ONE + ONE + "walk 0 0 0 1;walk 1 0 5 1;");
        fair(halves, 0, 1, 1);
        fair(halves, 1, 1, 1);
        ClayPrints thirds = Check.night(ONE + ONE + ONE + "walk 0 0 0 1;walk 1 0 5 1;walk 2 0 7 1;");
        fair(thirds, 1, 2, 3);
        ClayPrints quarters = Check.night(ONE.repeat(4) + "walk 0 0 0 1;walk 1 0 5 1;walk 2 0 7 1;walk 3 0 9 1;");
        fair(quarters, 3, 1, 2);
        ClayPrints mixed = Check.night(ONE.repeat(3) + "walk 0 0 0 1 1;walk 1 0 5 1 1;walk 2 0 7 1 2;");
        fair(mixed, 0, 7, 6);
        fair(mixed, 2, 5, 3);
    }

    /** A fraction in least terms: of 60ths together, by each number that can divide both. */
    private static void fairByEachCommonDivisor() {
        common(1, 1, 3, 37, 60);
        common(1, 4, 0, 11, 30);
        common(1, 3, 0, 9, 20);
        common(2, 2, 0, 8, 15);
        common(2, 3, 0, 5, 12);
        common(3, 1, 0, 7, 10);
        common(5, 0, 0, 7, 6);
        common(4, 0, 0, 6, 5);
        common(2, 1, 0, 3, 4);
        common(2, 0, 0, 4, 3);
        common(1, 0, 0, 3, 2);
        common(0, 0, 0, 2, 1);
    }

    /** So many others step in one's first print, in his first two, in all three (without these he makes two). */
    private static void common(int one, int two, int three, int over, int under) {
        StringBuilder text = new StringBuilder("size 3 2;" + ONE + "walk 0 0 0 1" + (three > 0 ? " 1;" : ";"));
        for (int p = 1; p <= one + two + three; p++) {
            text.append(p <= one ? "foot 0 3 1 0;" : ONE);
            text.append("walk " + p + " 0 " + 9 * p + " 1" + (p > one + two ? " 1;" : ";"));
        }
        fair(Check.night(text.toString()), 0, over, under);
    }

    /** Of each print that lies at DAWN. */
    private static void fairOfPrintsThatLie() {
        ClayPrints x = Check.night(ONE + ONE + "walk 0 0 0 1;walk 1 0 5 1;walk 1 0 1 1;rain 2;");
        fair(x, 0, 0, 1);
        fair(x, 1, 1, 1);
    }

    // ---- promise 14

    /** ALONE: how many prints lie at DAWN, if nobody else walks. */
    private static void aloneOfOneWhoDoesNotWalk() {
        ClayPrints x = Check.night(ONE.repeat(4) + "walk 0 0 0 1;walk 2 9 0 1;walk 3 9 0 1;carry 0 2;rolled 3;");
        Check.dueRow("alone", 0, p -> x.alone(0, p), 2, 0, 0, 0);
        ClayPrints y = Check.night(ONE + ONE + "walk 0 0 0 1 1;walk 1 0 5 1 1;");
        Check.dueRow("who steps in another's makes his own", 0, p -> y.alone(0, p), 3, 3);
    }

    /** Whom he carries he carries: so they walk no more than they did. */
    private static void aloneWithWhomHeCarries() {
        ClayPrints x = Check.night(ONE.repeat(3) + "walk 0 0 0 1;walk 1 9 0 1;walk 2 20 0 1;carry 0 1;carry 1 2;");
        Check.dueRow("alone", -1, p -> x.alone(0, p), 0, 2, 0, 0);
    }

    private static void aloneAtDawn() {
        ClayPrints x = Check.night(ONE + "walk 0 0 0 1 1;rain 1;");
        Check.due("behind a RAIN", 2, x.alone(0, 0));
        Check.due("nothing is told by it", 2, x.print(0, 99, -1, 0));
    }

    /** LEAVES: those for whom ALONE is less than their FAIR part. */
    private static void leavesIfLess() {
        // 0 goes round into his own print, if 1 has not trodden on it; 2 and 3 step in one of his each.
        String text = "size 4 4;foot 0 1 1 0;foot 1 3 1 0;foot 0 3 1 0;foot 0 3 1 0;walk 0 5 0 1 0 3 3 2 1;";
        ClayPrints less = Check.night(text + "walk 1 5 2 1;");
        Check.due("ALONE", 6, less.alone(0, 0));
        fair(less, 0, 7, 1);
        Check.due("less by one", 1, less.alone(0, -1));
        ClayPrints half = Check.night(text + "walk 1 5 2 1;walk 2 5 10 1;");
        Check.due("less by a half", 1, half.alone(0, -1));
        fair(half, 0, 13, 2);
        ClayPrints same = Check.night(text + "walk 1 5 2 1;walk 2 5 10 1;walk 3 2 10 0;");
        fair(same, 0, 6, 1);
        Check.due("the same", 0, same.alone(0, -1));
        ClayPrints more = Check.night(text);
        Check.due("nobody else", 0, more.alone(0, -1));
    }

    private static void leavesOfNobody() {
        Check.due("no PEOPLE", 0, Check.night("").alone(0, -1));
        Check.due("no prints", 0, Check.night(ONE.repeat(6)).alone(0, -1));
        Check.dueOut("alone", -2, p -> Check.night("").alone(0, p), 0, 1, -2);
        ClayPrints x = Check.night(ONE.repeat(6) + "walk 5 0 0 1;");
        Check.due("the last one", 2, x.alone(0, 5));
        Check.dueOut("alone", -2, p -> x.alone(0, p), 6, -2);
    }

    // ---- promise 15

    /** Who pays most TAX by a LAW; of several the least. */
    private static void paysMost() {
        ClayPrints x = Check.night("wet 0;foot 0 1 2 0;foot 1 2 2 0;foot 2 1 9 0;walk 0 0 0 1 1 1;walk 1 12 0 1 1;walk 2 24 0 1;");
        Check.dueRow("pays", 0, law -> x.pays(0, law), 0, 1, 2);
        ClayPrints y = Check.night("wet 0;foot 0 1 1 0;foot 1 1 1 0;foot 2 1 1 0;walk 1 12 0 1;walk 2 24 0 1;");
        Check.dueRow("of several the least", 0, law -> y.pays(0, law), 1, 1, 1);
        ClayPrints z = Check.night(ONE.repeat(6) + "walk 5 12 0 1;");
        Check.dueRow("the last one", 0, law -> z.pays(0, law), 5, 5, 5);
        ClayPrints w = Check.night(ONE + ONE);
        Check.dueRow("nothing at all", 0, law -> w.pays(0, law), 0, 0, 0);
    }

    /** NONE: there are no PEOPLE (PAYS). */
    private static void paysOfNobody() {
        ClayPrints x = Check.night("");
        Check.dueRow("no PEOPLE", 0, law -> x.pays(0, law), -1, -1, -1);
        Check.due("their YIELD", 0, x.pays(0, -1));
    }

    /** NONE: no such LAW. */
    private static void paysLaw() {
        ClayPrints x = Check.night(ONE + "walk 0 0 0 1;");
        Check.dueOut("pays", -1, law -> x.pays(0, law), -2, 3, 4);
        ClayPrints y = Check.night("");
        Check.dueOut("nobody pays", -1, law -> y.pays(0, law), -2, 3, 4);
    }

    /** YIELD: the LAW by which all TAX is most; of several the least. */
    private static void yieldOfSeveral() {
        Check.due("all the same", 0, Check.night("wet 0;foot 0 1 1 0;walk 0 0 0 1;").pays(0, -1));
        Check.due("YARD", 1, Check.night("wet 0;foot 0 3 2 0;walk 0 0 0 1;").pays(0, -1));
        Check.due("YARD and DEPTH the same", 1, Check.night("wet 0;foot 0 3 3 0;walk 0 0 0 1;").pays(0, -1));
        Check.due("DEPTH", 2, Check.night("wet 0;foot 0 3 4 0;walk 0 0 0 1;").pays(0, -1));
        Check.due("no prints", 0, Check.night("foot 0 3 4 0;").pays(0, -1));
        Check.due("of all together", 1, Check.night("wet 0;foot 0 3 1 0;foot 0 1 2 0;walk 0 0 0 1;walk 1 12 0 1;").pays(0, -1));
    }

    // ---- promise 24

    /** The numbers below 100 that a SEED draws, minute by minute. */
    private static int[] draws(int seed) {
        int[] draws = new int[100];
        long x = seed & 0xFFFFFFFFL;
        for (int minute = 0; minute < 100; minute++) {
            x = (x * 1103515245L + 12345L) % (1L << 32);
            draws[minute] = (int) (x / 65536 % 100);
        }
        return draws;
    }

    /** Below k it RAINS. */
    private static void drawnChances() {
        ClayPrints x = Check.night("");
        int[] draws = draws(7);
        for (int k = 0; k <= 100; k++) {
            int below = 0;
            for (int draw : draws) {
                below += draw < k ? 1 : 0;
            }
            Check.due("RAINS drawn below " + k, below, x.drawn(0, 7, k, 2));
        }
    }

    /** Each minute 0 .. 99. */
    private static void drawnFirstAndLastMinute() {
        ClayPrints x = Check.night("wet 0;foot 0 1 3 0;walk 0 0 0 1;");
        for (int minute : new int[] {0, 1, 2, 98, 99}) {
            int seed = seedOfOneRain(minute);
            int lie = Math.max(0, 2 - minute);
            String call = "a RAIN in minute " + minute + " alone";
            Check.dueRow(call, 0, what -> x.drawn(0, seed, 1, what), lie, 3 * lie, 1, -1);
            Check.due(call + ", by FOOT", lie, x.drawn(0, seed, 1, 10));
        }
    }

    /** The first SEED by which 0 is drawn in this minute and in no other one. */
    private static int seedOfOneRain(int minute) {
        for (int seed = 0;; seed++) {
            int[] draws = draws(seed);
            int noughts = 0;
            for (int draw : draws) {
                noughts += draw == 0 ? 1 : 0;
            }
            if (noughts == 1 && draws[minute] == 0) {
                return seed;
            }
        }
    }

    /** It RAINS, besides. */
    private static void drawnBesides() {
        ClayPrints x = Check.night(ONE + "walk 0 0 0 1 1 1;rain 2;rain 50;rain 51;rain 51;");
        Check.dueRow("none drawn", 0, what -> x.drawn(0, 3, 0, what), 0, 0, 0);
        Check.dueRow("all drawn", 0, what -> x.drawn(0, 3, 100, what), 0, 0, 100);
        ClayPrints y = Check.night(ONE + "walk 0 0 0 1 1 1;rain 2;");
        Check.dueRow("none drawn", 0, what -> y.drawn(0, 3, 0, what), 2, 6, 0);
        int seed = seedOfOneRain(3);
        Check.dueRow("one drawn", 0, what -> y.drawn(0, seed, 1, what), 1, 3, 1);
        Check.due("none is told by it", 1, y.night(0, 5));
        Check.due("the prints of all who are not washed away", 2, y.print(0, 99, -1, 0));
    }

    /** A SEED, of 32 bits. */
    private static void drawnSeeds() {
        ClayPrints x = Check.night("");
        for (int seed : new int[] {0, 1, -1, 2, -2, 65535, 65536, Integer.MIN_VALUE, Integer.MIN_VALUE + 1, Integer.MAX_VALUE}) {
            int below = 0;
            for (int draw : draws(seed)) {
                below += draw < 50 ? 1 : 0;
            }
            Check.due("RAINS of SEED " + seed, below, x.drawn(0, seed, 50, 2));
        }
    }

    /** K 0 .. 100; NONE: another k. */
    private static void drawnRange() {
        ClayPrints x = Check.night(ONE + "walk 0 0 0 1;");
        Check.dueRow("k 0", 0, what -> x.drawn(0, 9, 0, what), 2, 6, 0);
        Check.dueRow("k 100", 0, what -> x.drawn(0, 9, 100, what), 0, 0, 100);
        for (int what : new int[] {0, 1, 2, 10}) {
            Check.dueOut("k, what " + what, -1, k -> x.drawn(0, 9, k, what), -1, 101, 102);
        }
    }

    /** NONE for another what, 10 + p of one who is not there. */
    private static void drawnWhat() {
        ClayPrints x = Check.night(ONE.repeat(6) + "walk 5 0 0 1;walk 4 0 5 1;");
        Check.dueRow("by FOOT", 10, what -> x.drawn(0, 9, 0, what), 0, 0, 0, 0, 0, 2, -1);
        Check.dueOut("of six", -1, what -> x.drawn(0, 9, 0, what), -1, 3, 4, 8, 9, 16, 17, 20);
        ClayPrints y = Check.night("");
        Check.dueRow("of none", 0, what -> y.drawn(0, 9, 100, what), 0, 0, 100);
        Check.dueOut("of none", -1, what -> y.drawn(0, 9, 0, what), -1, 3, 9, 10, 11);
    }

    // ---- promise 26

    private static void falsely(ClayPrints x, int a, int b, int his, int others) {
        Check.due("TAX of " + a + " if CARRIED by " + b, his, x.carried(0, a, b, false));
        Check.due("TAX of " + b + " if he CARRIES " + a, others, x.carried(0, a, b, true));
    }

    /** What the first one's TAX by FOOT would be, if he was CARRIED by the other one all the night, and the other's then. */
    private static void falseOfTwo() {
        ClayPrints x = Check.night(ONE.repeat(3) + "walk 0 0 0 1;walk 1 0 5 1 1;");
        Check.dueRow("as told", 0, p -> x.tax(0, 0, p), 2, 1, 0);
        falsely(x, 0, 1, 0, 3);
        falsely(x, 1, 0, 0, 2);
        falsely(x, 0, 2, 0, 0);
        falsely(x, 2, 1, 0, 1);
        Check.dueRow("as told, still", 0, p -> x.tax(0, 0, p), 2, 1, 0);
        Check.dueRow("nobody is CARRIED by it", 0, p -> x.person(0, p, 5), -1, -1, -1);
        ClayPrints y = Check.night(ONE.repeat(6) + "walk 5 0 0 1;walk 0 9 0 1;");
        falsely(y, 0, 5, 0, 2);
        falsely(y, 5, 0, 0, 2);
        ClayPrints z = Check.night(ONE + ONE + "walk 0 0 0 1;walk 1 0 5 1 1;rain 6;");
        falsely(z, 0, 1, 0, 2);
    }

    private static void falseOfOneWhoCarries() {
        ClayPrints x = Check.night(ONE.repeat(3) + "walk 0 0 0 1;walk 1 9 0 1;walk 2 20 0 1;carry 0 1;");
        falsely(x, 0, 1, 0, 0);
        falsely(x, 1, 0, 0, 2);
        falsely(x, 1, 2, 0, 2);
        falsely(x, 0, 2, 0, 2);
        falsely(x, 2, 1, 0, 0);
    }

    /** NONE: both are one. */
    private static void falseOfOne() {
        ClayPrints x = Check.night(ONE.repeat(6) + "walk 5 0 0 1;");
        for (int p = 0; p <= 5; p++) {
            falsely(x, p, p, -1, -1);
        }
        falsely(x, 5, 6, -1, -1);
        falsely(x, 6, 5, -1, -1);
        falsely(x, -1, 5, -1, -1);
        falsely(x, 5, -1, -1, -1);
        falsely(x, 6, 6, -1, -1);
        ClayPrints y = Check.night(ONE);
        falsely(y, 0, 0, -1, -1);
        falsely(y, 0, 1, -1, -1);
    }

    // ---- promise 27

    /** SHOES: by which SOLE, 0 .. 5, of one all together pay least TAX by FOOT. */
    private static void shoesOfSix() {
        for (int sole = 0; sole <= 5; sole++) {
            String other = "foot " + sole + " 1 1 0;";
            ClayPrints x = Check.night("foot " + (5 - sole) + " 1 1 0;" + other + "walk 0 0 9 1;walk 1 0 0 1;");
            Check.due("in the prints of " + other, sole, x.better(0, 0, false));
            Check.due("as told, still", 5 - sole, x.person(0, 0, 0));
            ClayPrints y = Check.night("foot " + (5 - sole) + " 1 1 0;" + other + "walk 0 0 0 1;walk 1 0 9 1;");
            Check.due("all together, the prints for " + other, sole, y.better(0, 0, false));
        }
    }

    /** Of several the least. */
    private static void shoesOfSeveral() {
        ClayPrints x = Check.night("foot 5 1 1 0;foot 4 1 1 0;foot 3 1 1 0;foot 2 1 1 0;foot 4 1 1 0;"
            + "walk 0 0 20 1;walk 1 0 0 1;walk 2 6 0 1;walk 3 6 20 1;walk 4 6 0 1;hands 3;carry 0 4;");
        Check.dueRow("shoes", 0, p -> x.better(0, p, false), 4, 5, 0, 0, 0, -1);
        ClayPrints y = Check.night("foot 5 1 1 0;foot 4 1 1 0;foot 3 1 1 0;walk 0 0 20 1;walk 1 0 0 1;walk 2 6 0 1;walk 0 0 20 1 2;"
            + "walk 2 7 0 2;");
        Check.due("4 by two prints, 3 by one", 4, y.better(0, 0, false));
        Check.due("no prints", 0, Check.night("foot 5 1 1 0;").better(0, 0, false));
    }

    /** HOUR: the MINUTE, 0 .. 60, so that he makes fewest of the prints that lie. */
    private static void hourFirstAndLast() {
        Check.due("the first minute", 0, Check.night(ONE + ONE + "walk 0 0 0 1;walk 1 0 20 1;").better(0, 1, true));
        Check.due("in minute 0", 0, Check.night(ONE + "foot 1 1 1 0;" + ONE + "walk 0 0 0 1;walk 1 0 2 1;walk 2 0 20 1;")
            .better(0, 2, true));
        Check.due("behind minute 58", 59, Check.night(ONE + ONE + "walk 0 0 20 1;walk 1 0 58 1;").better(0, 0, true));
        Check.due("behind minute 59", 60, Check.night(ONE + ONE + "walk 0 0 20 1;walk 1 0 59 1;").better(0, 0, true));
        Check.due("behind minute 60", 0, Check.night(ONE + ONE + "walk 0 0 20 1;walk 1 0 60 1;").better(0, 0, true));
        Check.due("in minute 60", 60, Check.night(ONE + ONE + "walk 0 0 60 1;walk 1 0 20 1;").better(0, 1, true));
        Check.due("ahead of a RAIN", 0, Check.night(ONE + ONE + "walk 0 0 60 1;walk 1 0 20 1;rain 40;").better(0, 0, true));
        Check.due("all washed away, though he stepped in none", 0,
            Check.night(ONE + ONE + "walk 0 0 60 1;walk 1 0 20 1;rain 99;").better(0, 0, true));
    }

    /** Of several the least. */
    private static void hourOfSeveral() {
        Check.due("all the same", 0, Check.night(ONE + "walk 0 0 60 1;").better(0, 0, true));
        Check.due("rolled", 0, Check.night(ONE + "walk 0 0 60 1;rolled 0;").better(0, 0, true));
        Check.due("carried", 0, Check.night(ONE + ONE + "walk 0 0 60 1;carry 1 0;").better(0, 0, true));
        ClayPrints x = Check.night(ONE + ONE + "walk 0 0 60 1;walk 1 0 30 1;");
        Check.due("the first behind another one", 31, x.better(0, 0, true));
        Check.due("as told, still", 60, x.person(0, 0, 7));
        Check.due("the prints, still", 2, x.print(0, 99, -1, 0));
    }

    /** Without a WALK NONE. */
    private static void hourWithoutAWalk() {
        ClayPrints x = Check.night(ONE + ONE + ONE + "walk 0 0 0 1;carry 0 1;");
        Check.dueRow("hour", 0, p -> x.better(0, p, true), 0, -1, -1);
        Check.dueRow("but shoes", 0, p -> x.better(0, p, false), 0, 0, 0);
    }
}
