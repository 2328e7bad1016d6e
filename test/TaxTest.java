/** Promises 12 to 15, 24, 26 and 27: taxes, fair parts, who had better go alone, and what would be. */
public final class TaxTest {
    private static final String SHARED = "size 5 3;wet 1;foot 0 1 3 0;foot 0 1 5 1;foot 2 2 2 0;"
        + "walk 0 5 0 1 1 1;walk 1 5 1 1 1 0;walk 2 0 3 2 1;hands 2;";

    public static void main(String[] args) {
        tax();
        fair();
        fairFractions();
        alone();
        leaves();
        pays();
        drawn();
        carried();
        shoes();
        hour();
        Check.close();
    }

    private static void tax() {
        ClayPrints x = Check.night(SHARED);
        Check.dueRow("by foot", -2, p -> x.tax(0, 0, p), -1, 8, 4, 1, 3, -1);
        Check.dueRow("by yard", -2, p -> x.tax(0, 1, p), -1, 11, 4, 1, 6, -1);
        Check.dueRow("by depth", -2, p -> x.tax(0, 2, p), -1, 33, 18, 6, 9, -1);
        Check.due("law 3", -1, x.tax(0, 3, 0));
        Check.due("law -1", -1, x.tax(0, -1, 0));
        Check.due("night 1", -1, x.tax(1, 0, 0));
        Check.due("of all of nobody", 0, Check.night("").tax(0, 2, -1));
    }

    private static void fair() {
        ClayPrints x = Check.night(SHARED);
        Check.dueRow("over", -1, p -> x.fair(0, p, false), -1, 5, 5, 3, -1);
        Check.dueRow("under", -1, p -> x.fair(0, p, true), -1, 2, 2, 1, -1);
        Check.due("night 1", -1, x.fair(1, 0, true));
        ClayPrints y = Check.night("foot 0 1 1 0;");
        Check.due("nothing, over", 0, y.fair(0, 0, false));
        Check.due("nothing, under", 1, y.fair(0, 0, true));
    }

    private static void fairFractions() {
        StringBuilder text = new StringBuilder("foot 0 1 1 0;".repeat(6));
        for (int p = 0; p < 6; p++) {
            text.append("walk " + p + " 0 " + p + " 1".repeat(p < 5 ? p + 1 : 5) + ";");
        }
        ClayPrints x = Check.night(text.toString());
        // Six use the first two prints, five the third one, four, three, two the ones behind it.
        Check.dueRow("over", 0, p -> x.fair(0, p, false), 1, 8, 47, 67, 97, 97, -1);
        Check.dueRow("under", 0, p -> x.fair(0, p, true), 3, 15, 60, 60, 60, 60, -1);
    }

    private static void alone() {
        ClayPrints x = Check.night(SHARED);
        Check.dueRow("alone", -2, p -> x.alone(0, p), -2, 0, 4, 4, 3, -2);
        Check.due("night 1", -2, x.alone(1, 0));
        Check.due("night 1, all", -2, x.alone(1, -1));
        ClayPrints y = Check.night("foot 0 1 1 0;foot 0 1 1 0;walk 0 0 0 1 1;walk 1 6 0 1;carry 0 1;rain 1;");
        Check.due("with a rain", 2, y.alone(0, 0));
        Check.due("carried", 0, y.alone(0, 1));
    }

    private static void leaves() {
        // 0 goes round and steps in his own print, but not if 1 has trodden on it.
        ClayPrints x = Check.night("size 4 4;foot 0 1 1 0;foot 1 1 1 0;walk 0 5 0 1 0 3 3 2 1;walk 1 5 2 1;");
        Check.due("alone", 6, x.alone(0, 0));
        Check.due("fair", 7, x.fair(0, 0, false));
        Check.due("leaves", Check.bits(0), x.alone(0, -1));
        ClayPrints y = Check.night("size 4 4;foot 0 1 1 0;foot 1 1 1 0;walk 0 5 0 1 0 3 3 2 1;walk 1 6 2 1;");
        Check.due("nobody leaves", 0, y.alone(0, -1));
        Check.due("asked first of all", Check.bits(0), Check.night("size 4 4;foot 0 1 1 0;foot 1 1 1 0;"
            + "walk 0 5 0 1 0 3 3 2 1;walk 1 5 2 1;").alone(0, -1));
    }

    private static void pays() {
        ClayPrints x = Check.night(SHARED);
        Check.dueRow("pays", -2, law -> x.pays(0, law), -1, 2, 0, 2, 0, -1);
        Check.due("night 1", -1, x.pays(1, 0));
        ClayPrints y = Check.night("");
        Check.dueRow("nobody", -1, law -> y.pays(0, law), 0, -1, -1, -1, -1);
        ClayPrints z = Check.night("wet 0;foot 0 1 1 0;foot 1 1 1 0;walk 0 0 0 1;walk 1 6 0 1;");
        Check.dueRow("the least of several", -1, law -> z.pays(0, law), 0, 0, 0, 0, -1);
        ClayPrints w = Check.night("wet 0;foot 0 1 1 0;foot 1 2 1 0;walk 0 0 0 1;walk 1 6 0 1;");
        Check.dueRow("by yard", -1, law -> w.pays(0, law), 1, 0, 1, 0, -1);
        Check.due("asked first of all", 1, Check.night("foot 0 1 1 0;foot 1 2 1 0;walk 1 6 0 1;").pays(0, 0));
        Check.due("yield asked first of all", 1, Check.night("wet 0;foot 1 2 1 0;walk 0 6 0 1;").pays(0, -1));
        Check.due("no prints", 0, Check.night("foot 0 1 1 0;").pays(0, 2));
    }

    private static void drawn() {
        ClayPrints x = Check.night("wet 1;foot 0 1 2 0;walk 0 0 0 1 1 1 1;rain 3;");
        Check.dueRow("k 0", -1, what -> x.drawn(0, 5, 0, what), -1, 2, 6, 0, -1);
        Check.dueRow("k 0 by foot", 9, what -> x.drawn(0, 5, 0, what), -1, 2, -1);
        Check.dueRow("k 100", 0, what -> x.drawn(0, 5, 100, what), 0, 0, 100, -1);
        Check.due("k -1", -1, x.drawn(0, 5, -1, 0));
        Check.due("k 101", -1, x.drawn(0, 5, 101, 0));
        Check.due("night 1", -1, x.drawn(1, 5, 0, 0));
        for (int seed : new int[] {0, 1, -1, 12345, Integer.MIN_VALUE, Integer.MAX_VALUE}) {
            for (int k : new int[] {1, 10, 50, 99}) {
                drawnBy(x, seed, k);
            }
        }
        Check.due("nothing is told by it", 2, x.print(0, 99, -1, 0));
    }

    private static void drawnBy(ClayPrints x, int seed, int k) {
        long number = seed & 0xFFFFFFFFL;
        int rains = 0;
        int lying = 0;
        for (int minute = 0; minute < 100; minute++) {
            number = (number * 1103515245L + 12345L) & 0xFFFFFFFFL;
            boolean drawn = (number >> 16) % 100 < k;
            rains += drawn ? 1 : 0;
            lying = drawn || minute == 3 ? 0 : lying;
            lying += minute <= 4 ? 1 : 0;
        }
        String call = "drawn " + seed + " " + k;
        Check.dueRow(call, 0, what -> x.drawn(0, seed, k, what), lying, lying * 3, rains, -1);
        Check.due(call + " by foot", lying, x.drawn(0, seed, k, 10));
    }

    private static void carried() {
        ClayPrints x = Check.night(SHARED);
        Check.due("0 by 1", 0, x.carried(0, 0, 1, false));
        Check.due("1 of 0", 4, x.carried(0, 0, 1, true));
        Check.due("0 of 1", 4, x.carried(0, 1, 0, true));
        Check.due("2 of 0", 4, x.carried(0, 2, 0, true));
        Check.due("both are one", -1, x.carried(0, 1, 1, true));
        Check.due("3", -1, x.carried(0, 3, 1, true));
        Check.due("by 3", -1, x.carried(0, 1, 3, true));
        Check.due("-1", -1, x.carried(0, -1, 1, true));
        Check.due("by -1", -1, x.carried(0, 1, -1, true));
        Check.due("night 1", -1, x.carried(1, 0, 1, true));
        Check.due("nothing is told by it", -1, x.person(0, 0, 5));
        ClayPrints y = Check.night("foot 0 1 1 0;foot 1 1 1 0;walk 0 0 0 1;walk 1 6 0 1 1;carry 0 1;");
        Check.due("each by the other", 0, y.carried(0, 0, 1, true));
        Check.due("as told", 2, y.carried(0, 1, 0, true));
    }

    private static void shoes() {
        ClayPrints x = Check.night("foot 3 1 1 0;foot 1 1 1 0;walk 0 0 0 1 1;walk 1 0 9 1;");
        Check.dueRow("shoes", -1, p -> x.better(0, p, false), -1, 1, 3, -1);
        Check.due("as told, still", 5, x.tax(0, 0, -1));
        ClayPrints y = Check.night("foot 3 1 1 0;foot 4 1 1 0;walk 0 0 0 1 1;hands 0;");
        Check.dueRow("the least of several", 0, p -> y.better(0, p, false), 0, 0, -1);
        Check.due("night 1", -1, x.better(1, 0, false));
    }

    private static void hour() {
        ClayPrints x = Check.night("foot 0 1 1 0;foot 0 1 1 0;walk 0 0 20 1 1;walk 1 0 5 1 1;");
        Check.dueRow("hour", -1, p -> x.better(0, p, true), -1, 6, 20, -1);
        Check.due("as told, still", 20, x.person(0, 0, 7));
        ClayPrints y = Check.night("foot 0 1 1 0;foot 1 1 1 0;foot 2 1 1 0;walk 0 0 20 1 1;walk 2 0 3 1;carry 0 2;rain 55;");
        Check.dueRow("rain, without a walk, carried", 0, p -> y.better(0, p, true), 0, -1, 0, -1);
        ClayPrints z = Check.night("foot 0 1 1 0;foot 0 1 1 0;walk 0 0 20 1 1;walk 1 0 59 1 1;");
        Check.due("minute 60", 60, z.better(0, 0, true));
        ClayPrints w = Check.night("foot 0 1 1 0;foot 0 1 1 0;walk 0 0 20 1 1;walk 1 0 60 1 1;");
        Check.due("no minute 61", 0, w.better(0, 0, true));
        Check.due("night 1", -1, x.better(1, 0, true));
    }
}
