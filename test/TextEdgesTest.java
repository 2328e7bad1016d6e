import java.util.function.ToLongFunction;

/** Promise 4 at its edges, a method for each sentence: where a text goes, how it goes, what its NUMBERS can be, FAULTS. */
public final class TextEdgesTest {
    private static final String ONE = "foot 0 1 1 0;";
    private static final String SIX = ONE.repeat(6);
    private static final String ERRAND = "errand 0 0 0;";
    private static final String SIGN = "sign 0 0 0 0 1;";

    public static void main(String[] args) {
        furtherOnes();
        inThePlaceOfOne();
        nothingOfEarlierTexts();
        askedOfTheLatestText();
        noneSuch();
        asManyAsMayBe();
        noSuchSort();
        faultKeepsAllThatIsTold();
        faultEmptiesTheTape();
        takenEmptiesTheTape();
        refusedEmptiesTheTapeAndReadsNothing();
        wholeTape();
        blanks();
        wordsAsLongAsTheyGo();
        numbersOfOneOrTwoDigits();
        noTokens();
        anyNumberOfLines();
        eachLineGoesOnSo();
        endsPlace();
        numbersOfNight();
        numbersOfPeople();
        numbersOfWalk();
        numbersOfWho();
        numbersOfCarry();
        carryOfOneHimself();
        numbersOfRain();
        numbersOfErrand();
        numbersOfSign();
        steps();
        mostOfPeople();
        mostErrands();
        mostSigns();
        placeOfOneTooMany();
        noTextComesFirst();
        firstByPlace();
        leastOfOnePlace();
        badLinesCountAllTheSame();
        cellNotThere();
        personNotThere();
        notThereAsTheTextEnds();
        notThereComesLast();
        Check.close();
    }

    private static void fault(int sort, String text, int kind, int place) {
        ClayPrints x = new ClayPrints();
        Check.put(x, text);
        Check.due("text: " + text, kind == 0 ? 0 : -1, x.text(sort, -1));
        Check.dueRow("fault: " + text, 0, x::fault, kind, place);
        Check.due("count: " + text, kind == 0 ? 1 : 0, x.count(sort));
    }

    private static void good(int sort, String text) {
        fault(sort, text, 0, -1);
    }

    // ---- where a text goes

    private static void tell(ClayPrints x, String text, int sort, int at, int want) {
        Check.put(x, text);
        Check.due("text(" + sort + ", " + at + ") of " + text, want, x.text(sort, at));
    }

    /** A further one (at NONE): its number. */
    private static void furtherOnes() {
        ClayPrints x = new ClayPrints();
        tell(x, "wet 1;", 0, -1, 0);
        tell(x, "wet 3;", 0, -1, 1);
        tell(x, SIGN, 1, -1, 0);
        tell(x, SIGN + SIGN, 1, -1, 1);
        Check.due("night 0", 1, x.night(0, 2));
        Check.due("night 1", 3, x.night(1, 2));
        Check.due("reading 0", 1, x.sign(0, -1, 0));
        Check.due("reading 1", 2, x.sign(1, -1, 0));
    }

    /** In the place of one: its number; the other one stays. */
    private static void inThePlaceOfOne() {
        ClayPrints x = new ClayPrints();
        tell(x, "wet 1;", 0, -1, 0);
        tell(x, "wet 4;size 3 3;" + ONE, 0, 0, 0);
        Check.dueRow("instead of the only one", 0, what -> x.night(0, what), 3, 3, 4, 1);
        tell(x, "wet 3;", 0, -1, 1);
        tell(x, "wet 5;", 0, 1, 1);
        Check.dueRow("night 0 stays", 0, what -> x.night(0, what), 3, 3, 4, 1);
        Check.due("night 1", 5, x.night(1, 2));
        tell(x, "", 0, 0, 0);
        Check.dueRow("nothing of the old one", 0, what -> x.night(0, what), 6, 6, 2, 0);
        Check.due("night 1 stays", 5, x.night(1, 2));
        tell(x, SIGN, 1, -1, 0);
        tell(x, SIGN, 1, -1, 1);
        tell(x, SIGN.repeat(3), 1, 0, 0);
        tell(x, "", 1, 1, 1);
        Check.due("reading 0", 3, x.sign(0, -1, 0));
        Check.due("reading 1", 0, x.sign(1, -1, 0));
        Check.dueRow("no more of them", 0, x::count, 2, 2);
    }

    /** A text tells by itself: no line of an earlier one, sound or with a FAULT, tells anything in it. */
    private static void nothingOfEarlierTexts() {
        ClayPrints x = new ClayPrints();
        String large = "size 8 8;wet 9;" + SIX + "walk 0 63 9 0 0 0;walk 1 60 9 0;hands 0;rolled 1;carry 0 2;rain 0;rain 99;errand 5 63 62;";
        tell(x, large, 0, -1, 0);
        tell(x, large + "hands 0;wet 10;", 0, 0, -1);
        tell(x, large + "?", 0, 0, -1);
        tell(x, "size 2 2;foot 1 1 1 0;foot 2 1 2 0;foot 3 1 3 0;", 0, 0, 0);
        Check.dueRow("night", 0, what -> x.night(0, what), 2, 2, 2, 3, 0, 0);
        Check.dueRow("person 0", 0, what -> x.person(0, 0, what), 1, 1, 1, 0, 0, -1, -1, -1, 0, 0);
        Check.dueRow("person 1", 0, what -> x.person(0, 1, what), 2, 1, 2, 0, 0, -1, -1, -1, 0, 0);
        Check.dueRow("person 2", 0, what -> x.person(0, 2, what), 3, 1, 3, 0, 0, -1, -1, -1, 0, 0);
        tell(x, "size 2 2;foot 1 1 1 0;foot 2 1 2 0;walk 0 3 0 3;", 0, 0, 0);
        Check.due("prints", 2, x.print(0, 99, -1, 0));
        tell(x, "hands 0;", 0, 0, -1);
        Check.dueRow("nobody of an earlier one is there", 0, x::fault, 4, 8);
        tell(x, ONE.repeat(5) + "errand 0 0 1;".repeat(4), 0, 0, 0);
        tell(x, ONE.repeat(5) + "errand 0 0 1;".repeat(5), 0, 0, 0);
        Check.dueRow("counted by itself", 3, what -> x.night(0, what), 5, 5, 0);
        tell(x, SIGN.repeat(10), 1, -1, 0);
        tell(x, SIGN.repeat(10) + "?", 1, 0, -1);
        tell(x, SIGN.repeat(10), 1, 0, 0);
        tell(x, SIGN, 1, 0, 0);
        Check.due("signs", 1, x.sign(0, -1, 0));
    }

    /** What is asked is told of the texts as they are now, whatever was asked ahead. */
    private static void askedOfTheLatestText() {
        ClayPrints x = Check.night("wet 0;foot 0 1 1 0;walk 0 0 0 1;errand 0 0 2;", "sign 0 0 0 3 1;sign 1 0 1 1 1;");
        asked(x, 1, 1, 2, 2);
        tell(x, "wet 0;foot 0 1 1 0;walk 0 0 0 1;errand 0 0 4;", 0, 0, 0);
        asked(x, 3, 1, 2, 2);
        tell(x, "sign 0 0 0 3 1;" + SIGN, 1, 0, 0);
        asked(x, 3, 2, 1, 2);
        tell(x, "wet 0;foot 0 1 1 0;foot 0 1 1 0;foot 1 1 1 0;", 0, -1, 1);
        tell(x, SIGN, 1, -1, 1);
        asked(x, 3, 2, 1, 2);
        Check.due("WALKS of another reading", 1, x.walks(0, 1, 0));
        Check.due("ROW of another reading", 1, x.row(0, 1, 1));
        Check.due("TOUR of another night", 0, x.tour(1, 0));
        Check.due("MAKERS by another night", 3, x.makers(1, 0, 0));
        asked(x, 3, 2, 1, 2);
        x.image(0);
        tell(x, "", 0, 0, 0);
        asked(x, 0, 2, 1, 2);
        x.again(0);
        asked(x, 3, 2, 1, 2);
    }

    private static void asked(ClayPrints x, int tour, int walks, int ways, int row) {
        Check.due("TOUR", tour, x.tour(0, 0));
        Check.dueRow("WALKS", 0, what -> x.walks(0, 0, what), walks, ways);
        Check.due("ROW", row, x.row(0, 0, 1));
    }

    /** -2: there is none such. */
    private static void noneSuch() {
        ClayPrints x = new ClayPrints();
        for (int sort = 0; sort <= 1; sort++) {
            for (int have = 0; have <= 2; have++) {
                for (int at : new int[] {-2, have, 2, Integer.MIN_VALUE, Integer.MAX_VALUE}) {
                    refused(x, sort, at, have);
                }
                if (have < 2) {
                    tell(x, "", sort, -1, have);
                }
            }
        }
    }

    /** -2: there are as many as may be; of the other sort there may still be some. */
    private static void asManyAsMayBe() {
        ClayPrints x = new ClayPrints();
        tell(x, "", 0, -1, 0);
        tell(x, "", 0, -1, 1);
        refused(x, 0, -1, 2);
        tell(x, "", 1, -1, 0);
        tell(x, "", 1, -1, 1);
        refused(x, 1, -1, 2);
        tell(x, "", 1, 1, 1);
        tell(x, "", 0, 1, 1);
        refused(x, 0, -1, 2);
    }

    /** -2: no such sort. */
    private static void noSuchSort() {
        ClayPrints x = new ClayPrints();
        tell(x, "", 0, -1, 0);
        tell(x, "", 1, -1, 0);
        for (int sort : new int[] {-1, 2, -2, Integer.MIN_VALUE, Integer.MAX_VALUE}) {
            refused(x, sort, -1, -2);
            refused(x, sort, 0, -2);
        }
    }

    private static void refused(ClayPrints x, int sort, int at, int have) {
        String call = "text(" + sort + ", " + at + ")";
        Check.put(x, "wet 7;");
        Check.due(call, -2, x.text(sort, at));
        Check.due(call + ": count", have, x.count(sort));
    }

    /** NONE: a FAULT; no further one comes, and one in whose place it was to go stays. */
    private static void faultKeepsAllThatIsTold() {
        String night = "size 4 5;wet 7;foot 1 2 3 1;foot 2 1 4 2;walk 0 9 5 0 1;hands 0;carry 0 1;errand 0 1 2;rain 90;";
        ClayPrints x = Check.night(night, "sign 3 4 1 2 5;");
        for (String spoilt : new String[] {"x", "size 8 8;wet 10;" + ONE, "size 8 8;" + SIX + ONE, "size 8 8;wet 1;hands 0;"}) {
            tell(x, spoilt, 0, -1, -1);
            tell(x, spoilt, 0, 0, -1);
        }
        tell(x, "sign 1 1 1 1 0;" + SIGN, 1, 0, -1);
        tell(x, SIGN + SIGN + "sign", 1, -1, -1);
        Check.dueRow("count", 0, x::count, 1, 1);
        Check.dueRow("night", 0, what -> x.night(0, what), 4, 5, 7, 2, 1, 1);
        Check.dueRow("errand", 1, ten -> x.night(0, 10 * ten), 0, 1, 2);
        Check.dueRow("person 0", 0, what -> x.person(0, 0, what), 1, 2, 3, 1, 1, -1, 9, 5, 2, 2);
        Check.dueRow("person 1", 0, what -> x.person(0, 1, what), 2, 1, 4, 2, 0, 0, -1, -1, 0, 0);
        Check.due("signs", 1, x.sign(0, -1, 0));
        Check.dueRow("sign", 0, what -> x.sign(0, 0, what), 3, 4, 1, 2, 5);
    }

    /** The tape is taken (and is empty then): also with a FAULT. */
    private static void faultEmptiesTheTape() {
        ClayPrints x = new ClayPrints();
        for (String spoilt : new String[] {"wet", "wet 10;", SIX + ONE, "hands 0;"}) {
            tell(x, spoilt, 0, -1, -1);
            Check.dueTape("behind a FAULT", 0, x);
        }
    }

    /** The tape is taken (and is empty then). */
    private static void takenEmptiesTheTape() {
        ClayPrints x = new ClayPrints();
        tell(x, "wet 1;" + " ".repeat(594), 0, -1, 0);
        Check.dueTape("behind a text", 0, x);
        Check.due("fed", 20, x.feed(0, 0, 0, 0, 0));
    }

    /** The tape is empty then, too; no text is read, FAULT 0. */
    private static void refusedEmptiesTheTapeAndReadsNothing() {
        int[][] calls = {{0, 0}, {0, -2}, {1, 0}, {2, -1}, {-1, 0}};
        for (int[] call : calls) {
            ClayPrints x = new ClayPrints();
            tell(x, "wet", 0, -1, -1);
            Check.dueRow("a FAULT ahead", 0, x::fault, 1, 3);
            tell(x, "wet 10;", call[0], call[1], -2);
            Check.dueTape("refused", 0, x);
            Check.dueRow("refused: fault", 0, x::fault, 0, -1);
            Check.dueRow("refused: count", 0, x::count, 0, 0);
        }
        ClayPrints x = Check.night("wet 4;");
        tell(x, "wet 5;", 0, 1, -2);
        tell(x, "wet 6;", 2, 0, -2);
        Check.due("night 0 stays", 4, x.night(0, 2));
    }

    // ---- how a text goes

    /** THE TAPE has at most 600 bytes. */
    private static void wholeTape() {
        ClayPrints x = Check.night("wet 1;" + " ".repeat(588) + "wet 3;");
        Check.due("the last six of 600", 3, x.night(0, 2));
        fault(0, " ".repeat(599) + "w", 1, 599);
        fault(0, " ".repeat(600), 0, -1);
        fault(0, "wet 1;".repeat(100), 0, -1);
        fault(0, "wet 1;".repeat(99) + "wet 10", 1, 600);
        fault(0, "wet 1;".repeat(99) + "wet  1", 1, 600);
        fault(0, " ".repeat(592) + "hands 0;", 4, 600);
        fault(0, " ".repeat(592) + "wet 10 ;", 2, 596);
    }

    /** Blanks (10, 32) between: no other bytes, and as many as one likes, also none. */
    private static void blanks() {
        good(0, "wet\n1\n;");
        good(0, "  wet   1  ;  ");
        good(0, "\n\n \nwet \n1 ;\n");
        good(0, "wet1;wet2;");
        for (char c = 0; c < 256; c++) {
            boolean digit = c >= '0' && c <= '9';
            if (c != 10 && c != 32 && c != ';' && !digit) {
                fault(0, "wet 1" + c + ";", 1, 5);
                fault(0, c + "wet 1;", 1, 0);
            }
        }
    }

    /** TOKENS, as long as they go: words, rows of letters a .. z. */
    private static void wordsAsLongAsTheyGo() {
        fault(0, "wetwet 1;", 1, 0);
        fault(0, "wet 1;wets 1;", 1, 6);
        fault(0, "we t 1;", 1, 0);
        fault(0, "we", 1, 0);
        fault(0, "wet 1;a", 1, 6);
        fault(0, "wet 1;z 1;", 1, 6);
        fault(0, "wet 1;`", 1, 6);
        fault(0, "wet`1;", 1, 3);
        fault(0, "wet{1;", 1, 3);
        fault(0, "WET 1;", 1, 0);
        fault(0, "wEt 1;", 1, 0);
        fault(0, "weT 1;", 1, 0);
    }

    /** NUMBERS, 1 or 2 digits (a longer row of digits is no token). */
    private static void numbersOfOneOrTwoDigits() {
        Check.due("1 digit", 9, Check.night("wet 9;").night(0, 2));
        Check.due("2 digits", 9, Check.night("wet 09;").night(0, 2));
        Check.due("none is above 0", 0, Check.night("wet 00;").night(0, 2));
        fault(0, "wet 009;", 1, 4);
        fault(0, "wet 000;", 1, 4);
        fault(0, "rain 100;", 1, 5);
        fault(0, "rain 99;", 0, -1);
        fault(0, "size 8 0000000008;", 1, 7);
        fault(0, "wet 4294967297;", 1, 4);
        fault(0, "wet 1;001", 1, 6);
        fault(0, "wet 1;01", 1, 6);
        fault(0, "wet 1 001;", 1, 6);
        fault(0, "walk 0 0 0 1 001;", 1, 13);
        fault(0, "wet /;", 1, 4);
        fault(0, "wet :;", 1, 4);
        fault(0, "wet +1;", 1, 4);
    }

    /** 1 the first byte or token with which no text goes on. */
    private static void noTokens() {
        fault(0, "wet 1;\0", 1, 6);
        fault(0, "\0", 1, 0);
        fault(0, "\t", 1, 0);
        fault(0, " \r\n", 1, 1);
        fault(0, "wet\u00ff1;", 1, 3);
        fault(0, "wet 1\u0080;", 1, 5);
        fault(0, "wet 1:;", 1, 5);
        fault(0, "wet 1<;", 1, 5);
        fault(1, "sign 0 0 0 0 1.;", 1, 14);
    }

    /** A text: {..}: none, one, many. */
    private static void anyNumberOfLines() {
        good(0, "");
        good(1, "");
        good(0, "wet 1;");
        good(1, SIGN);
        good(0, "feet 0;".repeat(83) + ONE);
        fault(0, ";", 1, 0);
        fault(1, ";", 1, 0);
        fault(0, "wet 1;;", 1, 6);
        fault(1, SIGN + ";", 1, 15);
    }

    /** Each line: its word, just so many NUMBERS, ;. */
    private static void eachLineGoesOnSo() {
        String[] lines = {"size 3 3", "wet 1", "foot 0 1 1 0", "walk 0 0 0 1", "carry 0 1", "feet 0", "hands 0", "rolled 0",
            "rain 0", "errand 0 0 0"};
        for (String line : lines) {
            good(0, ONE + ONE + line + ";");
            goesOnSo(0, ONE + ONE, line);
            fault(1, line + ";", 1, 0);
        }
        goesOnSo(1, "", "sign 0 0 0 0 1");
        fault(0, SIGN, 1, 0);
        good(0, ONE + "walk 0 0 0 1 1;");
        fault(0, ONE + "walk 0 0 0 1 1 wet;", 1, 28);
        fault(0, ONE + "walk 0 0 0 1 1 ?", 1, 28);
        fault(0, ONE + "walk 0 0 0 1 1 111;", 1, 28);
        fault(0, ONE + "walk 0 0 0 1 1", 1, 27);
    }

    private static void goesOnSo(int sort, String ahead, String line) {
        int from = ahead.length();
        int end = from + line.length();
        fault(sort, ahead + line.substring(1) + ";", 1, from);
        fault(sort, ahead + line, 1, end);
        fault(sort, ahead + line + "wet;", 1, end);
        fault(sort, ahead + line + " foot 0 1 1 0;", 1, end + 1);
        int last = line.lastIndexOf(' ');
        fault(sort, ahead + line.substring(0, last) + " ;", 1, from + last + 1);
        fault(sort, ahead + line.substring(0, last) + " wet;", 1, from + last + 1);
        fault(sort, ahead + line.substring(0, last), 1, from + last);
        int word = line.indexOf(' ');
        fault(sort, ahead + line.substring(0, word) + ";", 1, from + word);
        fault(sort, ahead + line.substring(word) + ";", 1, from + 1);
        if (!line.startsWith("walk")) {
            fault(sort, ahead + line + " 0;", 1, end + 1);
        }
    }

    /** With places (a token's first byte; the end's). */
    private static void endsPlace() {
        fault(0, "wet", 1, 3);
        fault(0, "wet  ", 1, 5);
        fault(0, "wet 1\n", 1, 6);
        fault(0, "hands 0;", 4, 8);
        fault(0, "hands 0; \n ", 4, 11);
        fault(0, "  wet  10  ;", 2, 7);
        fault(0, "\n\nwex", 1, 2);
    }

    // ---- what NUMBERS can be

    /** The NUMBER between two parts of a text: the last ones that are in, as they are told, and the first ones that are out. */
    private static void number(int sort, String ahead, String behind, int first, int last, ToLongFunction<ClayPrints> told) {
        for (int n = Math.max(0, first - 1); n <= Math.min(99, last + 1); n++) {
            String text = ahead + n + behind;
            boolean in = n >= first && n <= last;
            fault(sort, text, in ? 0 : 2, in ? -1 : ahead.length());
            if (in) {
                ClayPrints x = new ClayPrints();
                Check.put(x, text);
                x.text(sort, -1);
                Check.due("told by " + text, n, told.applyAsLong(x));
            }
        }
        if (last < 99) {
            fault(sort, ahead + 99 + behind, 2, ahead.length());
        }
    }

    /** W columns and H rows, 2 .. 8; WET, 0 .. 9. */
    private static void numbersOfNight() {
        number(0, "size ", " 3;", 2, 8, x -> x.night(0, 0));
        number(0, "size 3 ", ";", 2, 8, x -> x.night(0, 1));
        number(0, "wet ", ";", 0, 9, x -> x.night(0, 2));
    }

    /** A SOLE, 0 .. 5, a STRIDE, 1 .. 3, a WEIGHT, 1 .. 9, a LIMP: 0, 1, 2. */
    private static void numbersOfPeople() {
        number(0, "foot ", " 1 1 0;", 0, 5, x -> x.person(0, 0, 0));
        number(0, "foot 0 ", " 1 0;", 1, 3, x -> x.person(0, 0, 1));
        number(0, "foot 0 1 ", " 0;", 1, 9, x -> x.person(0, 0, 2));
        number(0, "foot 0 1 1 ", ";", 0, 2, x -> x.person(0, 0, 3));
    }

    /** A CELL (0 .. 63), a MINUTE, 0 .. 60, sides (0 .. 3). */
    private static void numbersOfWalk() {
        String large = "size 8 8;" + ONE;
        number(0, SIX + "walk ", " 7 9 1;", 0, 5, x -> firstOne(x, 6, 7));
        number(0, large + "walk 0 ", " 9 1;", 0, 63, x -> x.person(0, 0, 6));
        number(0, large + "walk 0 9 ", " 1;", 0, 60, x -> x.person(0, 0, 7));
        number(0, large + "walk 0 9 0 ", ";", 0, 3, x -> x.print(0, 0, 0, 3));
        number(0, large + "walk 0 9 0 1 ", " 1;", 0, 3, x -> x.print(0, 99, 2, 3));
        number(0, large + "walk 0 9 0" + " 1 3".repeat(11) + " 1 ", ";", 0, 3, x -> x.where(0, 0, 24) == 2 ? 0
            : x.where(0, 0, 24) == 11 ? 1 : x.where(0, 0, 24) == 18 ? 2 : 3);
    }

    /** PEOPLE are 0 .. 5. */
    private static void numbersOfWho() {
        number(0, SIX + "hands ", ";", 0, 5, x -> firstOne(x, 4, 1));
        number(0, SIX + "rolled ", ";", 0, 5, x -> firstOne(x, 4, 2));
        number(0, SIX + "hands 0;hands 1;hands 2;hands 3;hands 4;hands 5;feet ", ";", 0, 5, x -> firstOne(x, 4, 0));
    }

    private static long firstOne(ClayPrints x, int what, int want) {
        for (int p = 0; p < 6; p++) {
            if (x.person(0, p, what) == want) {
                return p;
            }
        }
        return -1;
    }

    /** Carry: who CARRIES, whom: PEOPLE are 0 .. 5. */
    private static void numbersOfCarry() {
        for (int other = 0; other <= 5; other++) {
            for (int n = 0; n <= 6; n++) {
                if (n != other) {
                    carry(other, n);
                }
            }
        }
        fault(0, SIX + "carry 0 99;", 2, 86);
        fault(0, SIX + "carry 99 0;", 2, 84);
    }

    private static void carry(int one, int n) {
        String by = SIX + "carry " + n + " " + one + ";";
        String whom = SIX + "carry " + one + " " + n + ";";
        fault(0, by, n == 6 ? 2 : 0, n == 6 ? 84 : -1);
        fault(0, whom, n == 6 ? 2 : 0, n == 6 ? 86 : -1);
        if (n < 6) {
            Check.due("carried by " + by, n, Check.night(by).person(0, one, 5));
            Check.due("carried in " + whom, one, Check.night(whom).person(0, n, 5));
        }
    }

    /** The second one of carry, if it is the first. */
    private static void carryOfOneHimself() {
        for (int n = 0; n <= 5; n++) {
            fault(0, SIX + "carry " + n + " " + n + ";", 2, 86);
            fault(0, SIX + "carry " + n + " 0" + n + ";", 2, 86);
        }
        fault(0, SIX + "carry 6 6;", 2, 84);
    }

    /** RAINS, minutes 0 .. 99. */
    private static void numbersOfRain() {
        for (int minute : new int[] {0, 1, 59, 60, 98, 99}) {
            ClayPrints x = Check.night("rain " + minute + ";" + ONE + "walk 0 0 0 1;");
            Check.due("rain " + minute, 1, x.night(0, 5));
            Check.due("behind it", minute < 2 ? 1 : 0, x.print(0, minute, -1, 0));
            Check.due("ahead of it", minute == 0 ? -2 : minute == 1 ? 1 : 2, x.print(0, minute - 1, -1, 0));
        }
        fault(0, "rain 100;", 1, 5);
    }

    /** Errand: who, from, to: PEOPLE are 0 .. 5, CELLS 0 .. 63. */
    private static void numbersOfErrand() {
        number(0, SIX + "errand ", " 1 2;", 0, 5, x -> x.night(0, 10));
        number(0, "size 8 8;" + ONE + "errand 0 ", " 2;", 0, 63, x -> x.night(0, 20));
        number(0, "size 8 8;" + ONE + "errand 0 2 ", ";", 0, 63, x -> x.night(0, 30));
    }

    /** A CELL, a SOLE, 0 .. 6, a FOOT: right (0), left (1), a SIDE, a DEPTH, 1 .. 99. */
    private static void numbersOfSign() {
        number(1, "sign ", " 1 1 1 1;", 0, 63, x -> x.sign(0, 0, 0));
        number(1, "sign 1 ", " 1 1 1;", 0, 6, x -> x.sign(0, 0, 1));
        number(1, "sign 1 1 ", " 1 1;", 0, 1, x -> x.sign(0, 0, 2));
        number(1, "sign 1 1 1 ", " 1;", 0, 3, x -> x.sign(0, 0, 3));
        number(1, "sign 1 1 1 1 ", ";", 1, 99, x -> x.sign(0, 0, 4));
    }

    // ---- how many there may be

    /** STEPS, 1 to 24; a 25th side of a WALK, at it. */
    private static void steps() {
        fault(0, ONE + "walk 0 0 0;", 1, 23);
        for (int steps : new int[] {1, 2, 23, 24}) {
            String text = ONE + "walk 0 0 0" + " 1 3".repeat(12).substring(0, 2 * steps) + ";";
            good(0, text);
            ClayPrints x = Check.night(text);
            Check.due("steps of " + text, steps, x.person(0, 0, 8));
            Check.due("made of " + text, steps, x.person(0, 0, 9));
        }
        fault(0, ONE + "walk 0 0 0" + " 1".repeat(25) + ";", 3, 72);
        fault(0, ONE + "walk 0 0 0" + " 1".repeat(26) + ";", 3, 72);
        fault(0, ONE + "walk 0 0 0" + " 1".repeat(100) + ";", 3, 72);
        good(0, ONE + ("walk 0 0 0" + " 1".repeat(24) + ";").repeat(2));
        good(0, ONE + ONE + "walk 0 0 0" + " 1".repeat(24) + ";walk 1 0 0" + " 1".repeat(24) + ";");
    }

    /** PEOPLE, at most 6; 3 a 7th of PEOPLE, at its first token. */
    private static void mostOfPeople() {
        for (int count = 0; count <= 6; count++) {
            Check.due("people", count, Check.night(ONE.repeat(count)).night(0, 3));
        }
        fault(0, SIX + ONE, 3, 78);
        fault(0, SIX + ONE + ONE, 3, 78);
    }

    /** ERRANDS, at most 5; a 6th ERRAND. */
    private static void mostErrands() {
        for (int count = 0; count <= 5; count++) {
            Check.due("errands", count, Check.night(ONE + ERRAND.repeat(count)).night(0, 4));
        }
        fault(0, ONE + ERRAND.repeat(6), 3, 78);
        fault(0, ONE + ERRAND.repeat(7), 3, 78);
    }

    /** SIGNS, at most 10; an 11th SIGN. */
    private static void mostSigns() {
        for (int count = 0; count <= 10; count++) {
            ClayPrints x = Check.night("", SIGN.repeat(count));
            Check.due("signs", count, x.sign(0, -1, 0));
        }
        fault(1, SIGN.repeat(11), 3, 150);
        fault(1, SIGN.repeat(12), 3, 150);
    }

    /** At its first token. */
    private static void placeOfOneTooMany() {
        fault(0, SIX + " \n " + ONE, 3, 81);
        fault(0, SIX + "wet 1;" + ONE, 3, 84);
        fault(0, ONE + ERRAND.repeat(5) + "  " + ERRAND, 3, 80);
        fault(1, SIGN.repeat(10) + "\n" + SIGN, 3, 151);
        fault(0, ONE + "walk 0 0 0" + " 1".repeat(24) + "   1;", 3, 74);
    }

    // ---- which FAULT it is

    /** If there is none (of 1), 2 and 3. */
    private static void noTextComesFirst() {
        fault(0, "wet 10;?", 1, 7);
        fault(0, "wet 10", 1, 6);
        fault(0, SIX + ONE + "?", 1, 91);
        fault(0, SIX + "foot", 1, 82);
        fault(0, "walk 0 0 0" + " 1".repeat(25), 1, 60);
        fault(1, "sign 0 0 0 0 0;?", 1, 15);
        fault(0, "hands 0;?", 1, 8);
        fault(0, "wet 10;? wex", 1, 7);
    }

    /** The first by place. */
    private static void firstByPlace() {
        fault(0, "wet 10;wet 11;", 2, 4);
        fault(0, "size 9 9;", 2, 5);
        fault(0, SIX + ONE + "wet 10;", 3, 78);
        fault(0, "wet 10;" + SIX + ONE, 2, 4);
        fault(0, SIX + "foot 9 1 1 0;", 3, 78);
        fault(0, ONE + ERRAND.repeat(5) + "errand 9 0 0;", 3, 78);
        fault(1, SIGN.repeat(10) + "sign 99 0 0 0 1;", 3, 150);
        fault(0, ONE + "walk 0 0 0 4" + " 1".repeat(24) + ";", 2, 24);
        fault(0, ONE + "walk 0 0 0" + " 1".repeat(25) + " 4;", 3, 72);
        fault(0, ONE + "walk 0 0 0" + " 1".repeat(25) + ";wet 10;", 3, 72);
    }

    /** Of one place the least. */
    private static void leastOfOnePlace() {
        fault(0, ONE + "walk 0 0 0" + " 1".repeat(24) + " 4;", 2, 72);
        fault(0, ONE + "walk 0 0 0" + " 1".repeat(24) + " 3;", 3, 72);
    }

    /** A line with such a NUMBER tells its one of PEOPLE, ERRAND, SIGN all the same: its FAULT is the first one all the same. */
    private static void badLinesCountAllTheSame() {
        fault(0, "foot 6 1 1 0;" + SIX, 2, 5);
        fault(0, "foot 6 1 1 0;hands 0;", 2, 5);
        fault(0, ONE + "errand 0 64 0;" + ERRAND.repeat(5), 2, 22);
        fault(1, "sign 64 0 0 0 1;" + SIGN.repeat(10), 2, 5);
    }

    /** 4 of a NIGHT a CELL that was told of and is not there. */
    private static void cellNotThere() {
        int[][] sizes = {{2, 2}, {2, 8}, {8, 2}, {3, 5}, {6, 6}, {8, 7}, {8, 8}};
        for (int[] size : sizes) {
            int cells = size[0] * size[1];
            String ahead = "size " + size[0] + " " + size[1] + ";" + ONE;
            cell(ahead + "walk 0 ", " 0 1;", cells);
            cell(ahead + "errand 0 ", " 0;", cells);
            cell(ahead + "errand 0 0 ", ";", cells);
        }
        good(1, "sign 63 0 0 0 1;");
    }

    private static void cell(String ahead, String behind, int cells) {
        good(0, ahead + (cells - 1) + behind);
        if (cells < 64) {
            String out = ahead + cells + behind;
            fault(0, out, 4, out.length());
            fault(0, ahead + 63 + behind, 4, ahead.length() + 2 + behind.length());
        }
    }

    /** Or one of PEOPLE. */
    private static void personNotThere() {
        for (int people = 0; people <= 6; people++) {
            String ahead = ONE.repeat(people);
            for (String word : new String[] {"feet", "hands", "rolled"}) {
                person(ahead + word + " ", ";", people);
            }
            person(ahead + "walk ", " 0 0 1;", people);
            person(ahead + "errand ", " 0 0;", people);
        }
        for (int people = 2; people <= 6; people++) {
            person(ONE.repeat(people) + "carry 0 ", ";", people);
            person(ONE.repeat(people) + "carry ", " 0;", people);
        }
    }

    private static void person(String ahead, String behind, int people) {
        if (people > 0) {
            good(0, ahead + (people - 1) + behind);
        }
        if (people < 6) {
            String out = ahead + people + behind;
            fault(0, out, 4, out.length());
        }
    }

    /** That was told of and is not there: by the whole text, whatever comes first in it. */
    private static void notThereAsTheTextEnds() {
        good(0, "hands 0;" + ONE);
        good(0, "walk 5 63 0 1;size 8 8;" + SIX);
        good(0, "size 8 8;walk 0 63 0 1;" + ONE);
        fault(0, "size 8 8;walk 0 63 0 1;size 8 7;" + ONE, 4, 45);
        fault(0, "size 8 8;walk 0 63 0 1;walk 0 0 0 1;size 2 2;" + ONE, 4, 58);
        fault(0, ONE + "feet 0;feet 1;", 4, 27);
        fault(0, ONE + ONE + "carry 2 0;carry 1 0;", 4, 46);
        fault(0, "feet 5;" + ONE.repeat(5), 4, 72);
    }

    /** If there is none of these, at the end's place. */
    private static void notThereComesLast() {
        fault(0, "hands 0;wet 10;", 2, 12);
        fault(0, "wet 10;hands 0;", 2, 4);
        fault(0, "size 2 2;" + SIX + "errand 0 63 0;" + ONE, 3, 101);
        fault(0, "hands 0;wet", 1, 11);
        fault(0, "hands 0;hands 6;", 2, 14);
        fault(0, "hands 0; ", 4, 9);
    }
}
