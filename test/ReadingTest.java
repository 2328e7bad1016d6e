/** Promises 21 to 23 and 29: makers, what follows, walks, rows. */
public final class ReadingTest {
    public static void main(String[] args) {
        makers();
        makersCarrying();
        follows();
        followsByStride();
        followsInTheSquare();
        walks();
        rings();
        firstWay();
        rows();
        empty();
        severalTexts();
        Check.close();
    }

    private static void makers() {
        ClayPrints x = Check.night("wet 1;foot 0 1 3 0;foot 0 1 5 1;foot 2 2 2 0;foot 2 1 3 2;",
            "sign 5 0 0 1 4;sign 6 0 1 1 4;sign 7 0 0 1 3;sign 6 0 1 3 6;sign 1 2 0 0 9;sign 63 6 0 0 4;sign 0 1 0 0 4;"
            + "sign 0 2 1 0 2;sign 0 2 0 0 2;");
        Check.dueRow("makers", -2, k -> x.makers(0, 0, k), -2, Check.bits(6, 8), Check.bits(0, 1), Check.bits(0),
            Check.bits(1), Check.bits(0, 1), Check.bits(3), Check.bits(0, 1, 3), 0, Check.bits(3), 0, -2);
    }

    private static void makersCarrying() {
        ClayPrints x = Check.night("wet 0;foot 0 1 1 0;foot 1 1 2 0;foot 1 1 4 0;carry 0 1;carry 0 2;",
            "sign 0 0 0 0 1;sign 0 0 0 0 2;sign 0 0 0 0 3;sign 0 0 0 0 5;sign 0 0 0 0 7;sign 0 1 0 0 6;sign 0 1 0 0 3;");
        Check.dueRow("nobody, any one other, not two, not himself", 0, k -> x.makers(0, 0, k),
            1, 0, 1, 1, 0, Check.bits(1, 2), Check.bits(1), -2);
        ClayPrints y = Check.night("wet 0;foot 0 1 1 1;", "sign 0 0 0 0 1;sign 0 0 1 0 1;");
        Check.dueRow("1 at least", 0, k -> y.makers(0, 0, k), 1, 1);
        ClayPrints z = Check.night("", "sign 0 6 0 0 1;");
        Check.dueRow("nobody there", -1, k -> z.makers(0, 0, k), 1, 0);
    }

    private static void follows() {
        String night = "size 5 3;wet 1;foot 0 1 3 0;foot 0 1 5 1;foot 2 2 2 0;";
        ClayPrints x = Check.night(night, "sign 5 0 0 1 4;sign 6 0 1 1 4;sign 7 0 0 1 3;sign 6 0 1 3 6;sign 1 2 0 0 9;");
        Check.dueRow("follows", -2, k -> x.follows(0, 0, k), -2, 3, Check.bits(1), 0, Check.bits(3), Check.bits(2), 0, -2);
        ClayPrints y = Check.night(night, "sign 5 0 0 1 4;sign 6 0 0 1 4;sign 6 6 1 1 4;sign 6 0 1 3 4;sign 6 0 1 1 20;");
        Check.due("same foot, other sole, other side, not his", 0, y.follows(0, 0, -1));
        ClayPrints z = Check.night("wet 0;foot 0 1 1 0;foot 0 1 2 0;", "sign 0 0 0 1 1;sign 1 0 1 1 2;sign 2 0 0 1 3;");
        Check.dueRow("one who is maker of both", -1, k -> z.follows(0, 0, k), 1, 0, Check.bits(2), 0);
    }

    private static void followsByStride() {
        ClayPrints x = Check.night("wet 0;foot 0 2 1 0;foot 0 3 3 0;",
            "sign 0 0 0 1 1;sign 2 0 1 1 1;sign 3 0 1 1 1;sign 0 6 0 1 3;sign 18 6 1 2 3;");
        Check.dueRow("by stride", 0, k -> x.follows(0, 0, k), Check.bits(1), 0, 0, Check.bits(4), 0);
    }

    private static void followsInTheSquare() {
        ClayPrints x = Check.night("size 4 2;wet 0;foot 0 1 1 0;",
            "sign 3 0 0 1 1;sign 4 0 1 1 1;sign 8 0 0 2 1;sign 9 0 1 1 1;sign 4 0 1 0 1;");
        Check.due("nothing round the edge or outside", 0, x.follows(0, 0, -1));
        ClayPrints y = Check.night("size 4 4;wet 0;foot 0 1 1 0;", "sign 4 0 1 1 1;sign 8 0 0 2 1;sign 9 0 1 1 1;");
        Check.due("on a larger one", 2, y.follows(0, 0, -1));
    }

    private static void walks() {
        ClayPrints x = Check.night("size 5 3;wet 1;foot 0 1 3 0;foot 0 1 5 1;foot 2 2 2 0;",
            "sign 5 0 0 1 4;sign 6 0 1 1 4;sign 7 0 0 1 3;sign 6 0 1 3 6;sign 1 2 0 0 9;");
        Check.dueRow("what", -1, what -> x.walks(0, 0, what), -2, 3, 2, -2);
        Check.dueRow("next", 9, what -> x.walks(0, 0, what), -2, 1, -1, 3, -1, -1, -2);
    }

    /** Rights and lefts that may follow each other in rings: a row is no ring. */
    private static void rings() {
        ClayPrints x = Check.night("wet 0;foot 0 1 1 0;", "sign 0 0 0 3 1;sign 1 0 1 1 1;");
        Check.due("couples", 2, x.follows(0, 0, -1));
        Check.dueRow("one ring", 0, what -> x.walks(0, 0, what), 1, 2, -2);
        Check.dueRow("one ring, next", 10, what -> x.walks(0, 0, what), 1, -1, -2);
        ClayPrints y = Check.night("wet 0;foot 0 1 1 0;", "sign 0 0 0 3 1;sign 1 0 1 1 1;".repeat(2));
        Check.dueRow("two of each", 0, what -> y.walks(0, 0, what), 1, 8, -2);
        Check.dueRow("two of each, next", 10, what -> y.walks(0, 0, what), 1, 2, 3, -1, -2);
        ClayPrints z = Check.night("wet 0;foot 0 1 1 0;", "sign 0 0 0 3 1;sign 1 0 1 1 1;".repeat(5));
        Check.dueRow("five of each", 0, what -> z.walks(0, 0, what), 1, 28800, -2);
    }

    private static void firstWay() {
        ClayPrints x = Check.night("wet 0;foot 0 1 1 0;",
            "sign 0 0 0 1 1;sign 0 0 0 1 1;sign 1 0 1 1 1;sign 1 0 1 1 1;sign 2 0 0 1 1;");
        Check.dueRow("two rows", 0, what -> x.walks(0, 0, what), 2, 4, -2);
        Check.dueRow("two rows, next", 10, what -> x.walks(0, 0, what), 2, 3, 4, -1, -1, -2);
        ClayPrints y = Check.night("wet 0;foot 0 1 1 0;",
            "sign 0 0 0 1 1;sign 1 0 1 1 1;sign 0 0 0 1 1;sign 7 0 1 2 1;sign 1 0 0 3 1;");
        Check.dueRow("the least that follows", 10, what -> y.walks(0, 0, what), 1, -1, -1, -1, 3);
    }

    private static void rows() {
        ClayPrints x = Check.night("wet 0;foot 0 1 1 0;",
            "sign 0 0 0 1 1;sign 1 0 1 1 1;sign 2 0 0 1 1;sign 3 0 1 1 1;sign 4 0 0 1 1;");
        Check.dueRow("rows", 0, k -> x.row(0, 0, k), -2, 5, 3, 2, 2, -2);
        Check.due("walks", 1, x.walks(0, 0, 0));
        ClayPrints y = Check.night("wet 0;foot 0 1 1 0;", "sign 0 0 0 3 1;".repeat(7) + "sign 1 0 1 1 1;".repeat(3));
        Check.dueRow("rows of few lefts", 0, k -> y.row(0, 0, k), -2, 10, 7, 4, 4, -2);
        Check.dueRow("walks of few lefts", 0, what -> y.walks(0, 0, what), 4, 25200);
    }

    private static void empty() {
        ClayPrints x = Check.night("foot 0 1 1 0;", "");
        Check.due("forged", 0, x.makers(0, 0, -1));
        Check.due("couples", 0, x.follows(0, 0, -1));
        Check.dueRow("walks", 0, what -> x.walks(0, 0, what), 0, 1, -2);
        Check.due("next of none", -2, x.walks(0, 0, 10));
        Check.dueRow("rows", 0, k -> x.row(0, 0, k), -2, 0, 0, 0, 0, -2);
    }

    /** What was found for some texts is not told of others. */
    private static void severalTexts() {
        ClayPrints x = Check.night("foot 0 1 1 0;", "sign 0 0 0 0 3;");
        x.image(0);
        Check.put(x, "foot 0 1 2 0;");
        x.text(0, -1);
        Check.put(x, "sign 0 0 0 0 4;sign 0 0 0 0 4;");
        x.text(1, -1);
        Check.due("night 0, reading 0", 1, x.makers(0, 0, 0));
        Check.due("night 0, reading 1", 0, x.makers(0, 1, 0));
        Check.due("night 1, reading 1", 1, x.makers(1, 1, 0));
        Check.due("night 1, reading 0", 0, x.makers(1, 0, 0));
        Check.due("walks of reading 0", 1, x.walks(1, 0, 0));
        Check.due("walks of reading 1", 2, x.walks(1, 1, 0));
        Check.put(x, "wet 1;foot 0 1 2 0;");
        x.text(0, 1);
        Check.due("another night 1", 0, x.makers(1, 1, 0));
        Check.put(x, "sign 0 0 0 0 3;sign 0 0 0 0 3;sign 0 0 0 0 3;");
        x.text(1, 1);
        Check.due("another reading 1", 1, x.makers(1, 1, 0));
        Check.due("walks of another reading 1", 3, x.walks(1, 1, 0));
        x.text(0, 0);
        Check.due("an empty night 0", 0, x.makers(0, 0, 0));
        x.again(0);
        Check.due("night 0 as the image has it", 1, x.makers(0, 0, 0));
    }
}
