/** Promises 6, 7, 8, 17 and 20: what is told of a night and of a reading, and where one is. */
public final class ToldTest {
    private static final String NIGHT = "size 5 4;wet 7;foot 3 2 8 1;foot 4 1 2 2;foot 0 3 9 0;foot 1 1 1 0;"
        + "walk 0 0 5 1 1 1;walk 1 7 60 0 0 0;walk 2 10 0 1 1;hands 1;rolled 2;carry 0 3;"
        + "errand 1 2 3;errand 0 19 19;rain 4;rain 99;rain 4;";

    public static void main(String[] args) {
        night();
        defaults();
        person();
        strikes();
        nothingStays();
        where();
        whereCarried();
        near();
        sign();
        Check.close();
    }

    private static void night() {
        ClayPrints x = Check.night(NIGHT);
        Check.dueRow("night", -1, what -> x.night(0, what), -1, 5, 4, 7, 4, 2, 2, -1);
        Check.dueRow("night", 9, what -> x.night(0, what), -1, 1, 0, -1);
        Check.dueRow("night", 19, what -> x.night(0, what), -1, 2, 19, -1);
        Check.dueRow("night", 29, what -> x.night(0, what), -1, 3, 19, -1);
        Check.due("night MIN", -1, x.night(0, Integer.MIN_VALUE));
        Check.due("night MAX", -1, x.night(0, Integer.MAX_VALUE));
        Check.due("no night 1", -1, x.night(1, 0));
        Check.due("no night -1", -1, x.night(-1, 0));
    }

    private static void defaults() {
        ClayPrints x = Check.night("");
        Check.dueRow("empty night", 0, what -> x.night(0, what), 6, 6, 2, 0, 0, 0);
        ClayPrints y = Check.night("foot 2 3 4 1;");
        Check.dueRow("mere foot", -1, what -> y.person(0, 0, what), -2, 2, 3, 4, 1, 0, -1, -1, -1, 0, 0, -2);
    }

    private static void person() {
        ClayPrints x = Check.night(NIGHT);
        Check.dueRow("person 0", 0, what -> x.person(0, 0, what), 3, 2, 8, 1, 0, -1, 0, 5, 3, 2);
        Check.dueRow("person 1", 0, what -> x.person(0, 1, what), 4, 1, 2, 2, 1, -1, 7, 60, 3, 1);
        Check.dueRow("person 2", 0, what -> x.person(0, 2, what), 0, 3, 9, 0, 2, -1, 10, 0, 2, 1);
        Check.dueRow("person 3", 0, what -> x.person(0, 3, what), 1, 1, 1, 0, 0, 0, -1, -1, 0, 0);
        Check.due("person 4", -2, x.person(0, 4, 0));
        Check.due("person -1", -2, x.person(0, -1, 0));
        Check.due("night 1", -2, x.person(1, 0, 0));
        Check.due("what 10", -2, x.person(0, 0, 10));
    }

    private static void strikes() {
        ClayPrints x = Check.night("foot 0 1 1 0;foot 0 1 1 0;foot 0 1 1 0;size 2 2;size 3 2;wet 1;wet 4;"
            + "walk 0 1 1 1 1 1;walk 0 2 2 3;hands 0;feet 0;hands 1;rolled 1;carry 0 1;carry 2 1;carry 0 2;");
        Check.dueRow("later ones strike", 0, what -> x.night(0, what), 3, 2, 4);
        Check.dueRow("later walk", 6, what -> x.person(0, 0, what), 2, 2, 1, 1);
        Check.due("feet again", 0, x.person(0, 0, 4));
        Check.due("rolled last", 2, x.person(0, 1, 4));
        Check.due("carried by the last one", 2, x.person(0, 1, 5));
        Check.due("carrying one more strikes nothing", 0, x.person(0, 2, 5));
        Check.due("the carried one makes no STEPS", 0, Check.night("foot 0 1 1 0;foot 0 1 1 0;walk 1 0 0 1;carry 0 1;")
            .person(0, 1, 9));
    }

    private static void nothingStays() {
        ClayPrints x = Check.night(NIGHT, "sign 1 2 1 3 4;sign 1 2 1 3 4;");
        Check.put(x, "foot 5 1 1 0;foot 0 1 1 0;foot 0 1 1 0;foot 0 1 1 0;");
        Check.due("instead", 0, x.text(0, 0));
        Check.dueRow("night", 0, what -> x.night(0, what), 6, 6, 2, 4, 0, 0);
        Check.dueRow("person 0", 0, what -> x.person(0, 0, what), 5, 1, 1, 0, 0, -1, -1, -1, 0, 0);
        Check.dueRow("person 1", 4, what -> x.person(0, 1, what), 0, -1, -1, -1, 0, 0);
        Check.dueRow("person 2", 4, what -> x.person(0, 2, what), 0, -1, -1, -1, 0, 0);
        Check.dueRow("person 3", 4, what -> x.person(0, 3, what), 0, -1, -1, -1, 0, 0);
        Check.put(x, "sign 9 0 0 0 1;");
        Check.due("instead", 0, x.text(1, 0));
        Check.due("signs", 1, x.sign(0, -1, 0));
        Check.dueRow("sign", 0, what -> x.sign(0, 0, what), 9, 0, 0, 0, 1);
    }

    private static void where() {
        ClayPrints x = Check.night(NIGHT);
        Check.dueRow("where 0", -1, minute -> x.where(0, 0, minute), -2, -1, -1, -1, -1, -1, 0, 2, 4, 4);
        Check.dueRow("where 1", 59, minute -> x.where(0, 1, minute), -1, 7, 2, 2);
        Check.due("where 0 at the end", 4, x.where(0, 0, 99));
        Check.due("minute 100", -2, x.where(0, 0, 100));
        Check.due("rolled", 13, x.where(0, 2, 1));
        Check.due("carried", 2, x.where(0, 3, 6));
        Check.due("carried ahead", -1, x.where(0, 3, 4));
        Check.due("person 4", -2, x.where(0, 4, 0));
        Check.due("night 1", -2, x.where(1, 0, 0));
    }

    private static void whereCarried() {
        ClayPrints x = Check.night("foot 0 1 1 0;foot 0 1 1 0;foot 0 1 1 0;foot 0 1 1 0;"
            + "walk 0 0 2 1 1;walk 1 7 0 1;walk 2 9 50 1;carry 0 1;carry 1 2;carry 1 3;");
        Check.dueRow("carried", 1, minute -> x.where(0, 1, minute), -1, 0, 1, 2, 2);
        Check.dueRow("carried by one who is", 0, minute -> x.where(0, 2, minute), 9, 9);
        Check.due("carried so, to the end", 9, x.where(0, 2, 99));
        Check.due("carried so without a walk", -1, x.where(0, 3, 50));
        ClayPrints y = Check.night("foot 0 1 1 0;foot 0 1 1 0;walk 0 3 9 1;carry 0 1;carry 1 0;");
        Check.due("each by the other", 3, y.where(0, 0, 0));
        Check.due("each by the other, without a walk", -1, y.where(0, 1, 20));
    }

    private static void near() {
        ClayPrints x = Check.night("size 8 8;foot 0 1 1 0;foot 0 1 1 0;foot 0 1 1 0;"
            + "walk 0 0 0 1;walk 1 9 5 1;walk 2 63 0 1;");
        Check.due("near 0", Check.bits(0), x.near(0, 0, 0, 0));
        Check.due("near by 1 gone", Check.bits(0), x.near(0, 0, 1, 1));
        Check.due("near by 0 gone", 0, x.near(0, 0, 0, 1));
        Check.due("near by 2", Check.bits(0, 1), x.near(0, 0, 2, 5));
        Check.due("near by 3 gone", Check.bits(0, 1), x.near(0, 0, 3, 6));
        Check.due("near by 2 gone", Check.bits(0), x.near(0, 0, 2, 6));
        Check.due("near by 13", Check.bits(0), x.near(0, 0, 13, 0));
        Check.due("near by 14", Check.bits(0, 2), x.near(0, 0, 14, 0));
        Check.due("near by 15", -1, x.near(0, 0, 15, 0));
        Check.due("near by -1", -1, x.near(0, 0, -1, 0));
        Check.due("near cell 64", -1, x.near(0, 64, 1, 0));
        Check.due("near cell -1", -1, x.near(0, -1, 1, 0));
        Check.due("near minute 100", -1, x.near(0, 0, 1, 100));
        Check.due("near minute -1", -1, x.near(0, 0, 1, -1));
        Check.due("near night 1", -1, x.near(1, 0, 1, 0));
    }

    private static void sign() {
        ClayPrints x = Check.night("", "sign 63 6 1 3 99;sign 1 2 0 1 4;");
        Check.due("signs", 2, x.sign(0, -1, 0));
        Check.due("signs, what 1", -2, x.sign(0, -1, 1));
        Check.dueRow("sign 0", -1, what -> x.sign(0, 0, what), -2, 63, 6, 1, 3, 99, -2);
        Check.dueRow("sign 1", 0, what -> x.sign(0, 1, what), 1, 2, 0, 1, 4);
        Check.due("sign 2", -2, x.sign(0, 2, 0));
        Check.due("sign -2", -2, x.sign(0, -2, 0));
        Check.due("reading 1", -2, x.sign(1, 0, 0));
        Check.due("reading 1, all", -2, x.sign(1, -1, 0));
    }
}
