/** Promises 21 to 23 and 29 at their edges, a method for each sentence: MAKERS, FORGED, FOLLOWS, WALKS, ROWS. */
public final class ReadingEdgesTest {
    private static final String SIGN = "sign 0 0 0 0 1;";
    /** One who makes prints of DEPTH 1. */
    private static final String LIGHT = "size 8 8;wet 0;foot 0 1 1 0;";

    public static void main(String[] args) {
        makersBySole();
        makersByDepth();
        makersCarryingOneOther();
        makersByTheFootThatLimps();
        makersOfNobody();
        forged();
        makersNoneSuch();
        followsBySole();
        followsByFoot();
        followsByOneWhoIsMakerOfBoth();
        followsByStrideAndSide();
        followsInTheSquare();
        followsHimself();
        couples();
        followsNoneSuch();
        walksOfNoneOneAndTen();
        walksEachInOne();
        waysOfSome();
        waysOfMost();
        nextBehindAll();
        nextOfTheFirstWay();
        walksWhat();
        rowLengths();
        rowsOfUnlikeLengths();
        rowsOfNoneAndOne();
        rowRange();
        rowsLeaveWalks();
        Check.close();
    }

    // ---- promise 21

    /** PEOPLE whose SOLE it is (of 6: all). */
    private static void makersBySole() {
        StringBuilder night = new StringBuilder("wet 0;");
        StringBuilder signs = new StringBuilder();
        for (int sole = 0; sole <= 6; sole++) {
            night.append(sole < 6 ? "foot " + sole + " 1 4 0;" : "");
            signs.append("sign 0 " + sole + " 0 0 4;");
        }
        ClayPrints x = Check.night(night.toString(), signs.toString());
        Check.dueRow("makers", 0, k -> x.makers(0, 0, k), 1, 2, 4, 8, 16, 32, 63);
        Check.due("nothing is forged", 0, x.makers(0, 0, -1));
        ClayPrints y = Check.night("wet 0;foot 3 1 4 0;foot 3 1 4 0;hands 0;", "sign 0 3 0 0 4;sign 0 6 0 0 4;sign 0 2 0 0 4;");
        Check.dueRow("also who goes on HANDS", 0, k -> y.makers(0, 0, k), 3, 3, 0);
    }

    /** With that DEPTH: WEIGHT and WET, and no other one. */
    private static void makersByDepth() {
        ClayPrints x = Check.night("wet 4;foot 0 1 5 0;", "sign 0 0 0 0 8;sign 0 0 0 0 9;sign 0 0 0 0 10;sign 0 0 1 0 9;sign 0 0 0 0 5;");
        Check.dueRow("makers", 0, k -> x.makers(0, 0, k), 0, 1, 0, 1, 0);
        ClayPrints y = Check.night("wet 0;foot 0 1 1 0;", "sign 0 0 0 0 1;sign 0 0 0 0 2;sign 0 0 0 0 99;");
        Check.dueRow("the least", 0, k -> y.makers(0, 0, k), 1, 0, 0);
        ClayPrints z = Check.night("wet 9;foot 0 1 9 0;foot 0 1 9 0;", "sign 0 0 0 0 27;sign 0 0 0 0 26;sign 0 0 0 0 28;");
        Check.dueRow("the most", 0, k -> z.makers(0, 0, k), 3, 0, 0);
    }

    /** Carrying nobody, or any one other alone. */
    private static void makersCarryingOneOther() {
        String signs = "sign 0 0 0 0 1;sign 0 0 0 0 2;sign 0 0 0 0 3;sign 0 0 0 0 4;sign 0 0 0 0 5;sign 0 0 0 0 7;";
        ClayPrints x = Check.night("wet 0;foot 0 1 1 0;foot 5 1 2 0;foot 5 1 4 0;", signs);
        Check.dueRow("nobody, not himself, one, one, not both", 0, k -> x.makers(0, 0, k), 1, 0, 1, 0, 1, 0);
        ClayPrints y = Check.night("wet 0;foot 0 1 1 0;foot 5 1 2 0;foot 5 1 4 0;carry 0 1;carry 0 2;", signs);
        Check.dueRow("whomever he carries", 0, k -> y.makers(0, 0, k), 1, 0, 1, 0, 1, 0);
        ClayPrints z = Check.night("wet 0;foot 0 1 1 0;foot 5 1 2 0;foot 5 1 4 0;carry 1 0;rolled 0;", signs);
        Check.dueRow("whoever carries him", 0, k -> z.makers(0, 0, k), 1, 0, 1, 0, 1, 0);
        ClayPrints w = Check.night("wet 0;foot 0 1 1 0;", signs);
        Check.dueRow("no other one is there", 0, k -> w.makers(0, 0, k), 1, 0, 0, 0, 0, 0);
        ClayPrints v = Check.night("wet 0;" + "foot 5 1 9 0;".repeat(5) + "foot 0 1 1 0;", "sign 0 0 0 0 10;sign 0 5 0 0 18;");
        Check.dueRow("the last one, any of the others", 0, k -> v.makers(0, 0, k), 32, 31);
    }

    /** By that FOOT: half of it, cut, 1 at least, of the one that LIMPS. */
    private static void makersByTheFootThatLimps() {
        String signs = "sign 0 0 0 0 3;sign 0 0 0 0 7;sign 0 0 1 0 3;sign 0 0 1 0 7;sign 0 0 0 0 4;sign 0 0 1 0 4;";
        ClayPrints right = Check.night("wet 2;foot 0 1 5 1;", signs);
        Check.dueRow("right", 0, k -> right.makers(0, 0, k), 1, 0, 0, 1, 0, 0);
        ClayPrints left = Check.night("wet 2;foot 0 1 5 2;", signs);
        Check.dueRow("left", 0, k -> left.makers(0, 0, k), 0, 1, 1, 0, 0, 0);
        ClayPrints least = Check.night("wet 0;foot 0 1 1 1;foot 5 1 1 0;", "sign 0 0 0 0 1;sign 0 0 1 0 1;sign 0 0 1 0 2;sign 0 0 0 0 2;");
        Check.dueRow("1 at least, also with another one", 0, k -> least.makers(0, 0, k), 1, 1, 1, 0);
        ClayPrints both = Check.night("wet 0;foot 0 1 2 1;foot 5 1 3 0;", "sign 0 0 0 0 2;sign 0 0 0 0 4;sign 0 0 0 0 1;");
        Check.dueRow("half of both together", 0, k -> both.makers(0, 0, k), 1, 0, 1);
    }

    private static void makersOfNobody() {
        ClayPrints x = Check.night("", SIGN.repeat(10));
        Check.dueRow("makers", -1, k -> x.makers(0, 0, k), 1023, 0, 0, 0, 0, 0, 0, 0, 0, 0, 0, -2);
    }

    /** FORGED: SIGNS without MAKERS: none, some, all. */
    private static void forged() {
        Check.due("no SIGNS", 0, Check.night(LIGHT, "").makers(0, 0, -1));
        Check.due("none", 0, Check.night(LIGHT, SIGN.repeat(10)).makers(0, 0, -1));
        Check.due("the first", 1, Check.night(LIGHT, "sign 0 0 0 0 2;" + SIGN.repeat(9)).makers(0, 0, -1));
        Check.due("the last", 512, Check.night(LIGHT, SIGN.repeat(9) + "sign 0 1 0 0 1;").makers(0, 0, -1));
        Check.due("all", 1023, Check.night(LIGHT, "sign 0 5 0 0 1;".repeat(10)).makers(0, 0, -1));
    }

    /** -2: there is none such (SIGN). */
    private static void makersNoneSuch() {
        ClayPrints x = Check.night(LIGHT, SIGN + SIGN);
        Check.due("sign 1", 1, x.makers(0, 0, 1));
        Check.dueOut("makers", -2, k -> x.makers(0, 0, k), -2, 2, 9, 10);
        ClayPrints y = Check.night(LIGHT, "");
        Check.dueOut("makers of none", -2, k -> y.makers(0, 0, k), -2, 0, 1);
        ClayPrints z = Check.night(LIGHT, SIGN.repeat(10));
        Check.due("sign 9", 1, z.makers(0, 0, 9));
        Check.dueOut("makers of ten", -2, k -> z.makers(0, 0, k), -2, 10, 31, 32);
    }

    // ---- promise 22

    private static void follow(String night, String a, String b, int there, int back) {
        ClayPrints x = Check.night(night, "sign " + a + ";sign " + b + ";");
        String call = "sign " + a + ", sign " + b + " of " + night;
        Check.due(call + ": there", there, x.follows(0, 0, 0) >> 1 & 1);
        Check.due(call + ": back", back, x.follows(0, 0, 1) & 1);
        Check.due(call + ": couples", there + back, x.follows(0, 0, -1));
    }

    /** If their SOLES are the same. */
    private static void followsBySole() {
        follow(LIGHT, "9 0 0 1 1", "10 0 1 1 1", 1, 0);
        follow(LIGHT, "9 6 0 1 1", "10 6 1 1 1", 1, 0);
        follow(LIGHT, "9 0 0 1 1", "10 6 1 1 1", 0, 0);
        follow(LIGHT, "9 6 0 1 1", "10 0 1 1 1", 0, 0);
        follow(LIGHT, "9 1 0 1 1", "10 1 1 1 1", 0, 0);
        follow(LIGHT + "foot 1 1 1 0;", "9 1 0 1 1", "10 1 1 1 1", 1, 0);
    }

    /** Their FEET not. */
    private static void followsByFoot() {
        follow(LIGHT, "9 0 1 1 1", "10 0 0 1 1", 1, 0);
        follow(LIGHT, "9 0 0 1 1", "10 0 0 1 1", 0, 0);
        follow(LIGHT, "9 0 1 1 1", "10 0 1 1 1", 0, 0);
    }

    /** And there is one who is MAKER of both. */
    private static void followsByOneWhoIsMakerOfBoth() {
        follow(LIGHT + "foot 0 1 3 0;", "9 0 0 1 1", "10 0 1 1 3", 0, 0);
        follow(LIGHT + "foot 0 1 3 0;", "9 0 0 1 3", "10 0 1 1 3", 1, 0);
        follow(LIGHT + "foot 0 1 3 0;", "9 0 0 1 4", "10 0 1 1 1", 1, 0);
        follow(LIGHT + "foot 0 1 3 0;", "9 0 0 1 4", "10 0 1 1 3", 1, 0);
        follow(LIGHT, "9 0 0 1 2", "10 0 1 1 2", 0, 0);
        follow("", "9 6 0 1 1", "10 6 1 1 1", 0, 0);
    }

    /** In whose STRIDE it is from a's CELL to b's by b's SIDE. */
    private static void followsByStrideAndSide() {
        for (int side = 0; side < 4; side++) {
            int cell = 27 + (side == 0 ? -8 : side == 1 ? 1 : side == 2 ? 8 : -1);
            for (int other = 0; other < 4; other++) {
                follow(LIGHT, "27 0 0 " + other + " 1", cell + " 0 1 " + side + " 1", 1, other == (side + 2) % 4 ? 1 : 0);
                follow(LIGHT, "27 0 0 " + (side + 2) % 4 + " 1", cell + " 0 1 " + other + " 1", other == side ? 1 : 0, 1);
            }
        }
        for (int stride = 1; stride <= 3; stride++) {
            String night = "size 8 8;wet 0;foot 0 " + stride + " 1 0;";
            for (int far = 0; far <= 4; far++) {
                follow(night, "18 0 0 1 1", 18 + far + " 0 1 1 1", far == stride ? 1 : 0, 0);
                follow(night, "18 0 0 1 1", 18 + 8 * far + " 0 1 2 1", far == stride ? 1 : 0, 0);
            }
        }
        String two = "size 8 8;wet 0;foot 0 1 1 0;foot 0 3 2 0;";
        follow(two, "0 0 0 1 1", "3 0 1 1 1", 0, 0);
        follow(two, "0 0 0 1 2", "3 0 1 1 2", 1, 0);
        follow(two, "0 0 0 1 3", "3 0 1 1 3", 1, 0);
        follow(two, "0 0 0 1 3", "1 0 1 1 3", 1, 0);
    }

    /** A STEP leaves no SQUARE, and comes from no CELL that the NIGHT has not. */
    private static void followsInTheSquare() {
        String night = "size 4 3;wet 0;foot 0 1 1 0;";
        follow(night, "2 0 0 1 1", "3 0 1 1 1", 1, 0);
        follow(night, "3 0 0 1 1", "4 0 1 1 1", 0, 0);
        follow(night, "4 0 0 1 1", "3 0 1 3 1", 0, 0);
        follow(night, "7 0 0 2 1", "11 0 1 2 1", 1, 0);
        follow(night, "8 0 0 2 1", "12 0 1 2 1", 0, 0);
        follow(night, "12 0 0 0 1", "8 0 1 0 1", 0, 0);
        follow(night, "12 0 0 1 1", "13 0 1 1 1", 0, 0);
        follow(night, "63 0 0 1 1", "62 0 1 3 1", 0, 0);
        follow("size 8 8;wet 0;foot 0 1 1 0;", "63 0 0 1 1", "62 0 1 3 1", 1, 1);
    }

    private static void followsHimself() {
        ClayPrints x = Check.night(LIGHT, SIGN.repeat(10));
        for (int k = -1; k < 10; k++) {
            Check.due("of ten alike: follows " + k, 0, x.follows(0, 0, k));
        }
    }

    /** How many couples FOLLOW: none, one, the most. */
    private static void couples() {
        Check.due("no SIGNS", 0, Check.night(LIGHT, "").follows(0, 0, -1));
        Check.due("one SIGN", 0, Check.night(LIGHT, SIGN).follows(0, 0, -1));
        ClayPrints x = Check.night(LIGHT, "sign 0 0 0 3 1;sign 1 0 1 1 1;".repeat(5));
        Check.dueRow("ten", -1, k -> x.follows(0, 0, k), 50, 0x2AA, 0x155, 0x2AA, 0x155, 0x2AA, 0x155, 0x2AA, 0x155, 0x2AA, 0x155);
    }

    /** -2: there is none such (SIGN). */
    private static void followsNoneSuch() {
        ClayPrints x = Check.night(LIGHT, SIGN + SIGN);
        Check.due("sign 1", 0, x.follows(0, 0, 1));
        Check.dueOut("follows", -2, k -> x.follows(0, 0, k), -2, 2, 9, 10);
        ClayPrints y = Check.night(LIGHT, "");
        Check.dueOut("follows none", -2, k -> y.follows(0, 0, k), -2, 0, 1);
        ClayPrints z = Check.night(LIGHT, SIGN.repeat(10));
        Check.due("sign 9", 0, z.follows(0, 0, 9));
        Check.dueOut("follows of ten", -2, k -> z.follows(0, 0, k), -2, 10, 31, 32);
    }

    // ---- promise 23

    private static void walks(ClayPrints x, int walks, int ways, int... next) {
        Check.dueRow("WALKS and WAYS", 0, what -> x.walks(0, 0, what), walks, ways, -2);
        for (int k = 0; k < next.length; k++) {
            Check.due("NEXT of " + k, next[k], x.walks(0, 0, 10 + k));
        }
        Check.due("no NEXT more", -2, x.walks(0, 0, 10 + next.length));
    }

    /** One row along the first row of CELLS: R L R L .. */
    private static String line(int count) {
        StringBuilder signs = new StringBuilder();
        for (int k = 0; k < count; k++) {
            signs.append("sign " + (k < 8 ? k : 23 - k) + " 0 " + k % 2 + " " + (k < 8 ? 1 : k == 8 ? 2 : 3) + " 1;");
        }
        return signs.toString();
    }

    private static void walksOfNoneOneAndTen() {
        walks(Check.night(LIGHT, ""), 0, 1);
        walks(Check.night(LIGHT, SIGN), 1, 1, -1);
        walks(Check.night(LIGHT, SIGN + SIGN), 2, 1, -1, -1);
        walks(Check.night(LIGHT, SIGN.repeat(10)), 10, 1, -1, -1, -1, -1, -1, -1, -1, -1, -1, -1);
        walks(Check.night(LIGHT, line(2)), 1, 1, 1, -1);
        walks(Check.night(LIGHT, line(10)), 1, 1, 1, 2, 3, 4, 5, 6, 7, 8, 9, -1);
        walks(Check.night("", line(10)), 10, 1, -1, -1, -1, -1, -1, -1, -1, -1, -1, -1);
    }

    /** Rows in which all are (each in one). */
    private static void walksEachInOne() {
        walks(Check.night(LIGHT, line(3) + "sign 1 0 1 1 1;"), 2, 4, 1, 2, -1, -1);
        walks(Check.night(LIGHT, line(3) + "sign 2 0 0 1 1;"), 2, 2, 1, 2, -1, -1);
        walks(Check.night(LIGHT, "sign 0 5 0 0 1;" + line(2)), 2, 1, -1, 2, -1);
    }

    /** WAYS: in how many unlike ways. */
    private static void waysOfSome() {
        walks(Check.night(LIGHT, "sign 0 0 0 3 1;sign 1 0 1 1 1;"), 1, 2, 1, -1);
        walks(Check.night(LIGHT, "sign 0 0 0 3 1;sign 1 0 1 1 1;".repeat(2)), 1, 8, 1, 2, 3, -1);
        walks(Check.night(LIGHT, "sign 0 0 0 1 1;sign 0 0 0 1 1;sign 1 0 1 1 1;sign 1 0 1 1 1;"), 2, 2, 2, 3, -1, -1);
    }

    private static void waysOfMost() {
        ClayPrints x = Check.night(LIGHT, "sign 0 0 0 3 1;sign 1 0 1 1 1;".repeat(5));
        walks(x, 1, 28800, 1, 2, 3, 4, 5, 6, 7, 8, 9, -1);
        walks(x, 1, 28800, 1, 2, 3, 4, 5, 6, 7, 8, 9, -1);
    }

    /** None behind all: one who may be followed is, if the number of rows allows it. */
    private static void nextBehindAll() {
        walks(Check.night(LIGHT, "sign 1 0 1 1 1;sign 0 0 0 3 1;"), 1, 2, 1, -1);
        walks(Check.night(LIGHT, "sign 0 0 0 1 1;sign 0 0 0 1 1;sign 1 0 1 1 1;"), 2, 2, 2, -1, -1);
    }

    /** By the first such way (of SIGN 0, 1, ..: the least that follows it). */
    private static void nextOfTheFirstWay() {
        walks(Check.night(LIGHT, "sign 0 0 0 1 1;sign 1 0 1 1 1;sign 1 0 1 1 1;"), 2, 2, 1, -1, -1);
        walks(Check.night(LIGHT, "sign 1 0 1 1 1;sign 1 0 1 1 1;sign 0 0 0 1 1;sign 0 0 0 1 1;"), 2, 2, -1, -1, 0, 1);
        // 2 and 3 may follow each other, but a row is no ring.
        walks(Check.night(LIGHT, "sign 0 0 0 1 1;sign 1 0 1 1 1;sign 1 0 1 3 1;sign 2 0 0 1 1;"), 1, 1, 1, 3, -1, 2);
    }

    /** -2: for another what, NEXT of one that is not there. */
    private static void walksWhat() {
        ClayPrints x = Check.night(LIGHT, SIGN.repeat(10));
        Check.due("the last one", -1, x.walks(0, 0, 19));
        Check.dueOut("walks of ten", -2, what -> x.walks(0, 0, what), -1, 2, 3, 8, 9, 20, 21);
        ClayPrints y = Check.night(LIGHT, "");
        Check.dueOut("walks of none", -2, what -> y.walks(0, 0, what), -1, 2, 9, 10, 11);
    }

    // ---- promise 29

    /** ROW of k SIGNS at most, 1 .. 4. */
    private static void rowLengths() {
        int[][] want = {{1, 1, 1, 1}, {2, 1, 1, 1}, {3, 2, 1, 1}, {4, 2, 2, 1}, {5, 3, 2, 2}, {6, 3, 2, 2}, {7, 4, 3, 2}, {8, 4, 3, 2},
            {9, 5, 3, 3}, {10, 5, 4, 3}};
        for (int count = 1; count <= 10; count++) {
            ClayPrints x = Check.night(LIGHT, line(count));
            int[] w = want[count - 1];
            Check.dueRow("of " + count, 1, k -> x.row(0, 0, k), w[0], w[1], w[2], w[3]);
        }
    }

    /** If none has more than k SIGNS. */
    private static void rowsOfUnlikeLengths() {
        String lone = "sign 40 5 0 0 1;";
        ClayPrints x = Check.night(LIGHT, line(4) + lone + lone);
        Check.dueRow("four and two alone", 1, k -> x.row(0, 0, k), 6, 4, 4, 3);
        ClayPrints y = Check.night(LIGHT, lone + line(5) + lone);
        Check.due("five and two alone: one row would do", 3, y.walks(0, 0, 0));
        Check.dueRow("five and two alone", 1, k -> y.row(0, 0, k), 7, 5, 4, 4);
        ClayPrints z = Check.night(LIGHT, "sign 3 0 1 1 1;sign 2 0 0 1 1;sign 1 0 1 1 1;sign 0 0 0 1 1;" + lone.repeat(4));
        Check.dueRow("told from behind", 1, k -> z.row(0, 0, k), 8, 6, 6, 5);
        ClayPrints w = Check.night(LIGHT, "sign 1 0 1 1 1;sign 0 0 0 1 1;sign 3 0 1 1 1;sign 2 0 0 1 1;" + lone.repeat(4));
        Check.dueRow("the middle joined last", 1, k -> w.row(0, 0, k), 8, 6, 6, 5);
    }

    private static void rowsOfNoneAndOne() {
        ClayPrints x = Check.night(LIGHT, "");
        Check.dueRow("of none", 0, k -> x.row(0, 0, k), -2, 0, 0, 0, 0, -2);
        ClayPrints y = Check.night(LIGHT, SIGN);
        Check.dueRow("of one", 0, k -> y.row(0, 0, k), -2, 1, 1, 1, 1, -2);
        ClayPrints z = Check.night(LIGHT, SIGN.repeat(10));
        Check.dueRow("of ten that follow none", 0, k -> z.row(0, 0, k), -2, 10, 10, 10, 10, -2);
        ClayPrints w = Check.night(LIGHT, "sign 0 0 0 3 1;sign 1 0 1 1 1;".repeat(5));
        Check.dueRow("of ten that follow all others", 0, k -> w.row(0, 0, k), -2, 10, 5, 4, 3, -2);
    }

    /** -2: another k. */
    private static void rowRange() {
        ClayPrints x = Check.night(LIGHT, line(10));
        Check.due("k 1", 10, x.row(0, 0, 1));
        Check.due("k 4", 3, x.row(0, 0, 4));
        Check.dueOut("row", -2, k -> x.row(0, 0, k), -1, 0, 5, 6, 10);
    }

    private static void rowsLeaveWalks() {
        ClayPrints x = Check.night(LIGHT, line(5));
        walks(x, 1, 1, 1, 2, 3, 4, -1);
        Check.dueRow("rows", 1, k -> x.row(0, 0, k), 5, 3, 2, 2);
        walks(x, 1, 1, 1, 2, 3, 4, -1);
        Check.dueRow("rows", 1, k -> x.row(0, 0, k), 5, 3, 2, 2);
    }
}
