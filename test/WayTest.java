/** Promises 18 and 19: ways and tours. */
public final class WayTest {
    public static void main(String[] args) {
        dryGround();
        followed();
        fewestPrintsFirst();
        backToTheStart();
        strides();
        onFeet();
        tour();
        tourOrder();
        noTour();
        tourIsOfItsNight();
        Check.close();
    }

    private static void way(ClayPrints x, int p, int from, int to, int prints, int... sides) {
        String call = "way " + p + " " + from + " " + to;
        Check.due(call + " prints", prints, x.way(0, p, from, to, 0));
        Check.due(call + " steps", prints == -1 ? -1 : sides.length, x.way(0, p, from, to, 1));
        for (int i = 0; i < sides.length; i++) {
            Check.due(call + " side " + i, sides[i], x.way(0, p, from, to, 10 + i));
        }
        Check.due(call + " no side more", -1, x.way(0, p, from, to, 10 + sides.length));
    }

    private static void dryGround() {
        ClayPrints x = Check.night("size 4 4;foot 0 1 1 0;");
        way(x, 0, 5, 5, 0);
        way(x, 0, 0, 1, 2, 1);
        way(x, 0, 1, 0, 2, 3);
        way(x, 0, 0, 5, 3, 1, 2);
        way(x, 0, 5, 0, 3, 0, 3);
        way(x, 0, 15, 0, 7, 0, 0, 0, 3, 3, 3);
        way(x, 0, 0, 15, 7, 1, 1, 1, 2, 2, 2);
        Check.due("what 2", -1, x.way(0, 0, 0, 1, 2));
        Check.due("what 9", -1, x.way(0, 0, 0, 1, 9));
        Check.due("what -1", -1, x.way(0, 0, 0, 1, -1));
    }

    private static void followed() {
        ClayPrints x = Check.night("size 5 3;foot 0 1 3 0;foot 0 1 5 1;foot 1 1 2 0;walk 0 5 0 1 1 1;");
        way(x, 0, 5, 8, 0, 1, 1, 1);
        way(x, 1, 5, 7, 0, 1, 1);
        way(x, 2, 5, 7, 3, 1, 1);
        way(x, 0, 6, 8, 3, 1, 1);
        way(x, 0, 7, 5, 3, 3, 3);
        way(x, 0, 5, 2, 1, 1, 1, 0);
    }

    /** A long way in the prints of another one is better than a short one beside them. */
    private static void fewestPrintsFirst() {
        ClayPrints x = Check.night("size 6 6;foot 0 1 1 0;walk 0 0 0 1 1 2 2 3 3;");
        way(x, 0, 0, 12, 0, 1, 1, 2, 2, 3, 3);
        way(x, 0, 0, 6, 1, 1, 1, 2, 2, 3, 3, 0);
        ClayPrints y = Check.night("size 6 6;foot 0 1 1 0;walk 0 0 0 1 1 2 2 3 3;rain 90;");
        way(y, 0, 0, 12, 3, 2, 2);
        ClayPrints z = Check.night("size 2 2;foot 0 1 1 0;foot 0 1 1 0;walk 0 0 0 2 1;walk 1 0 10 1 2;");
        way(z, 0, 0, 3, 0, 1, 2);
    }

    /** The first foot has the side of the first step, so a round by prints may come first. */
    private static void backToTheStart() {
        ClayPrints x = Check.night("size 4 4;foot 0 1 1 0;walk 0 5 0 1 0 3 3 2 1 2;");
        way(x, 0, 5, 9, 0, 1, 0, 3, 3, 2, 1, 2);
    }

    private static void strides() {
        ClayPrints x = Check.night("size 5 3;foot 0 2 1 0;foot 0 3 1 0;foot 0 2 1 0;");
        way(x, 0, 0, 1, -1);
        way(x, 0, 0, 14, 4, 1, 1, 2);
        way(x, 1, 0, 3, 2, 1);
        way(x, 1, 0, 10, -1);
        way(x, 1, 2, 2, 0);
    }

    private static void onFeet() {
        ClayPrints x = Check.night("size 5 3;foot 0 1 3 0;foot 0 1 5 1;foot 0 1 2 2;foot 0 1 2 2;walk 0 5 0 1 1 1;"
            + "hands 1;rolled 2;carry 0 3;");
        way(x, 1, 5, 7, 0, 1, 1);
        way(x, 2, 5, 7, 0, 1, 1);
        way(x, 3, 5, 7, 0, 1, 1);
    }

    private static void tour(ClayPrints x, int prints, int steps, int... order) {
        Check.due("tour prints", prints, x.tour(0, 0));
        Check.due("tour steps", steps, x.tour(0, 1));
        for (int i = 0; i < order.length; i++) {
            Check.due("tour errand " + i, order[i], x.tour(0, 10 + i));
        }
        Check.due("tour, no errand more", -1, x.tour(0, 10 + order.length));
        Check.due("tour 2", -1, x.tour(0, 2));
        Check.due("tour -1", -1, x.tour(0, -1));
        Check.due("tour 9", -1, x.tour(0, 9));
    }

    private static void tour() {
        tour(Check.night(""), 0, 0);
        tour(Check.night("foot 0 1 1 0;errand 0 7 7;"), 0, 0, 0);
        tour(Check.night("foot 0 1 1 0;errand 0 0 2;errand 0 0 2;"), 3, 4, 0, 1);
        tour(Check.night("foot 0 1 1 0;foot 1 1 1 0;errand 0 0 2;errand 1 0 2;errand 0 0 1;"), 6, 5, 0, 2, 1);
        Check.due("night 1", -1, Check.night("").tour(1, 0));
        Check.due("nothing lies by it", 0, Check.night("foot 0 1 1 0;errand 0 0 2;").print(0, 99, -1, 0));
    }

    private static void tourOrder() {
        ClayPrints x = Check.night("size 8 2;foot 0 1 1 0;foot 1 1 1 0;walk 0 0 0 1 1 1;errand 1 3 0;errand 0 0 3;");
        tour(x, 4, 6, 1, 0);
        // What one errand presses lies for the next ones.
        ClayPrints y = Check.night("size 8 2;foot 0 1 1 0;errand 0 1 3;errand 0 0 4;errand 0 2 4;");
        tour(y, 8, 8, 0, 1, 2);
        // Fewer steps don't count, the first by rows does.
        ClayPrints z = Check.night("size 3 3;foot 0 1 1 0;errand 0 0 0;errand 0 8 8;errand 0 4 4;");
        tour(z, 0, 0, 0, 1, 2);
    }

    private static void noTour() {
        ClayPrints x = Check.night("foot 0 1 1 0;foot 0 2 1 0;errand 0 0 1;errand 1 0 1;");
        Check.dueRow("no tour", -1, what -> x.tour(0, what), -1, -1, -1, -1);
        Check.dueRow("no tour", 10, what -> x.tour(0, what), -1, -1, -1);
        Check.put(x, "foot 0 1 1 0;errand 0 0 1;errand 0 2 3;");
        x.text(0, 0);
        tour(x, 4, 2, 0, 1);
    }

    private static void tourIsOfItsNight() {
        ClayPrints x = Check.night("foot 0 1 1 0;errand 0 0 2;");
        Check.put(x, "foot 0 1 1 0;errand 0 0 3;errand 0 3 4;");
        x.text(0, -1);
        Check.due("of night 0", 3, x.tour(0, 0));
        Check.due("of night 1", 6, x.tour(1, 0));
        Check.due("of night 0 again", 3, x.tour(0, 0));
        x.image(0);
        Check.put(x, "foot 0 1 1 0;errand 0 0 4;");
        x.text(0, 0);
        Check.due("of another text", 5, x.tour(0, 0));
        x.again(0);
        Check.due("as the image has it", 3, x.tour(0, 0));
    }
}
