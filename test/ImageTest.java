/** Promises 31 and 32: images. */
public final class ImageTest {
    public static void main(String[] args) {
        whichImages();
        allThatIsTold();
        imagesStay();
        tapeAndFault();
        Check.close();
    }

    private static void whichImages() {
        ClayPrints x = new ClayPrints();
        Check.due("image(-1)", false, x.image(-1));
        Check.due("image(3)", false, x.image(3));
        Check.due("image(1)", true, x.image(1));
        Check.due("again(0)", false, x.again(0));
        Check.due("again(1)", true, x.again(1));
        Check.due("again(2)", false, x.again(2));
        Check.due("again(3)", false, x.again(3));
        Check.due("again(-1)", false, x.again(-1));
        Check.due("image(0)", true, x.image(0));
        Check.due("image(2)", true, x.image(2));
        Check.due("again(2) now", true, x.again(2));
    }

    private static final String NIGHT = "size 7 4;wet 5;foot 0 1 1 0;foot 3 2 4 1;walk 1 9 6 1 1;hands 1;carry 1 0;"
        + "rain 50;errand 1 3 5;";

    private static void allThatIsTold() {
        ClayPrints x = Check.night(NIGHT, "sign 5 4 1 2 33;");
        x.image(0);
        Check.put(x, "foot 1 1 1 0;foot 1 1 1 0;walk 0 0 0 2 2;walk 1 0 2 2;errand 0 1 2;errand 0 2 3;rain 7;");
        x.text(0, 0);
        Check.put(x, "wet 1;");
        x.text(0, -1);
        Check.put(x, "sign 1 1 1 1 1;sign 1 1 1 1 1;");
        x.text(1, 0);
        Check.put(x, "");
        x.text(1, -1);
        Check.due("changed", 3, x.print(0, 6, -1, 0));
        Check.due("again", true, x.again(0));
        Check.due("nights", 1, x.count(0));
        Check.due("readings", 1, x.count(1));
        Check.dueRow("night", 0, what -> x.night(0, what), 7, 4, 5, 2, 1, 1);
        Check.dueRow("errand", 1, ten -> x.night(0, 10 * ten), 1, 3, 5);
        Check.dueRow("person 0", 0, what -> x.person(0, 0, what), 0, 1, 1, 0, 0, 1, -1, -1, 0, 0);
        Check.dueRow("person 1", 0, what -> x.person(0, 1, what), 3, 2, 4, 1, 1, -1, 9, 6, 2, 2);
        Check.dueRow("print", 0, what -> x.print(0, 49, 1, what), 11, 6, 1, 1, 10, 7, 1, 2, 0);
        Check.due("rain", 0, x.print(0, 50, -1, 0));
        Check.due("signs", 1, x.sign(0, -1, 0));
        Check.dueRow("sign", 0, what -> x.sign(0, 0, what), 5, 4, 1, 2, 33);
        Check.due("a further night", -2, x.text(0, 1));
    }

    private static void imagesStay() {
        ClayPrints x = Check.night("wet 1;");
        x.image(0);
        tellWet(x, 2);
        x.image(1);
        tellWet(x, 3);
        x.image(2);
        tellWet(x, 4);
        for (int k : new int[] {0, 2, 1, 0, 0, 1, 2}) {
            Check.due("again " + k, true, x.again(k));
            Check.due("wet of " + k, k + 1, x.night(0, 2));
        }
        x.again(0);
        tellWet(x, 9);
        x.again(0);
        Check.due("an image is no part of what is told", 1, x.night(0, 2));
        tellWet(x, 8);
        x.image(0);
        tellWet(x, 9);
        x.again(0);
        Check.due("a later image is instead", 8, x.night(0, 2));
        x.again(1);
        Check.due("others stay", 2, x.night(0, 2));
    }

    private static void tellWet(ClayPrints x, int wet) {
        Check.put(x, "wet " + wet + ";");
        x.text(0, 0);
    }

    private static void tapeAndFault() {
        ClayPrints x = Check.night("");
        Check.put(x, "wet 77;");
        x.text(0, 0);
        Check.put(x, "wet 8;");
        x.image(2);
        x.end(0);
        Check.put(x, "size 3 3;");
        x.text(0, 0);
        Check.due("no FAULT", 0, x.fault(0));
        Check.due("again", true, x.again(2));
        Check.due("FAULT", 2, x.fault(0));
        Check.due("place", 4, x.fault(1));
        Check.due("tape", 6, x.end(6));
        Check.due("no longer tape", -1, x.end(7));
        Check.due("text", 0, x.text(0, 0));
        Check.due("told", 8, x.night(0, 2));
    }
}
