/** Promises 1 to 5 and 30: a new object, the tape, texts, FAULTS, how many there are. */
public final class TapeTest {
    public static void main(String[] args) {
        newObject();
        tape();
        slots();
        goodTexts();
        noText();
        badNumbers();
        tooMany();
        notThere();
        whichFault();
        Check.close();
    }

    private static void newObject() {
        ClayPrints x = new ClayPrints();
        Check.due("count(0) new", 0, x.count(0));
        Check.due("count(1) new", 0, x.count(1));
        Check.due("count(2)", -2, x.count(2));
        Check.due("count(-1)", -2, x.count(-1));
        Check.due("fault(0) new", 0, x.fault(0));
        Check.due("fault(1) new", -1, x.fault(1));
        Check.due("fault(2)", -1, x.fault(2));
        Check.due("fault(-1)", -1, x.fault(-1));
        for (int k = -1; k <= 3; k++) {
            Check.due("again new " + k, false, x.again(k));
        }
    }

    private static void tape() {
        ClayPrints x = new ClayPrints();
        Check.due("end(0)", 0, x.end(0));
        Check.due("end(1) of none", -1, x.end(1));
        for (int i = 1; i <= 30; i++) {
            Check.due("feed " + i, 20 * i, x.feed(0, 0, 0, 0, 0));
        }
        Check.due("feed beyond 600", -1, x.feed(0, 0, 0, 0, 0));
        Check.due("end(601)", -1, x.end(601));
        Check.due("end(600)", 600, x.end(600));
        Check.due("end(-1)", -1, x.end(-1));
        Check.due("end(581)", 581, x.end(581));
        Check.due("feed of 581", -1, x.feed(0, 0, 0, 0, 0));
        Check.due("end(580)", 580, x.end(580));
        Check.due("feed of 580", 600, x.feed(0, 0, 0, 0, 0));
        Check.due("end(7)", 7, x.end(7));
        Check.due("end(8) of 7", -1, x.end(8));
        Check.due("feed of 7", 27, x.feed(0, 0, 0, 0, 0));
        Check.due("bytes 0 are no text", -1, x.text(0, -1));
        Check.due("the tape is empty behind a fault", -1, x.end(1));
        Check.due("a text on an empty tape", 0, x.text(0, -1));
        highestByteFirst();
    }

    private static void highestByteFirst() {
        ClayPrints x = new ClayPrints();
        int blanks = 0x20202020;
        x.feed(0x77657420, 0x373B2020, blanks, blanks, blanks);
        Check.due("wet 7;", 0, x.text(0, -1));
        Check.due("wet 7; told", 7, x.night(0, 2));
        x.feed(0xFF657420, blanks, blanks, blanks, blanks);
        Check.due("byte 255", -1, x.text(0, -1));
        Check.due("byte 255, FAULT", 1, x.fault(0));
        Check.due("byte 255, place", 0, x.fault(1));
    }

    private static void slots() {
        ClayPrints x = new ClayPrints();
        refused(x, 0, 0);
        refused(x, 1, 0);
        refused(x, 0, -2);
        refused(x, 2, -1);
        refused(x, -1, -1);
        Check.put(x, "wet 1;");
        Check.due("text(0, -1)", 0, x.text(0, -1));
        refused(x, 0, 1);
        Check.put(x, "wet 3;");
        Check.due("text(0, -1) again", 1, x.text(0, -1));
        refused(x, 0, -1);
        refused(x, 0, 2);
        refused(x, 1, 1);
        Check.put(x, "wet 5;");
        Check.due("text(0, 1)", 1, x.text(0, 1));
        Check.due("night 0 stays", 1, x.night(0, 2));
        Check.due("night 1 is new", 5, x.night(1, 2));
        Check.put(x, "size 3 3;");
        Check.due("text(0, 0)", 0, x.text(0, 0));
        Check.due("nothing of the old one stays", 2, x.night(0, 2));
        Check.put(x, "wet 9; wet 10;");
        Check.due("a fault", -1, x.text(0, 1));
        Check.due("the old one stays", 5, x.night(1, 2));
        Check.due("count(0)", 2, x.count(0));
        Check.due("count(1)", 0, x.count(1));
        Check.put(x, "sign 1 2 1 3 4;");
        Check.due("text(1, -1)", 0, x.text(1, -1));
        Check.due("text(1, -1) empty", 1, x.text(1, -1));
        refused(x, 1, -1);
        Check.due("count(1)", 2, x.count(1));
    }

    private static void refused(ClayPrints x, int sort, int at) {
        Check.put(x, "?");
        String call = "text(" + sort + ", " + at + ")";
        Check.due(call, -2, x.text(sort, at));
        Check.due(call + " no FAULT", 0, x.fault(0));
        Check.due(call + " no place", -1, x.fault(1));
        Check.due(call + " empties the tape", -1, x.end(1));
    }

    private static void fault(int sort, String text, int kind, int place) {
        ClayPrints x = new ClayPrints();
        Check.put(x, text);
        Check.due("text: " + text, kind == 0 ? 0 : -1, x.text(sort, -1));
        Check.due("FAULT: " + text, kind, x.fault(0));
        Check.due("place: " + text, place, x.fault(1));
        Check.due("count: " + text, kind == 0 ? 1 : 0, x.count(sort));
    }

    private static void goodTexts() {
        fault(0, "", 0, -1);
        fault(0, " \n ", 0, -1);
        fault(0, "wet5;wet\n05\n;", 0, -1);
        fault(0, "size 2 8;wet 0;wet 9;foot 5 3 9 2;foot 0 1 1 0;walk 0 15 60 3 2 1 0;carry 1 0;", 0, -1);
        fault(0, "feet 0;hands 0;rolled 0;rain 0;rain 99;errand 0 0 35;foot 0 1 1 0;", 0, -1);
        fault(0, "walk 0 0 0 1 1 1 1 1 1 1 1 1 1 1 1 1 1 1 1 1 1 1 1 1 1 1 1;foot 0 1 1 0;", 0, -1);
        fault(1, "", 0, -1);
        fault(1, "sign 63 6 1 3 99;sign 0 0 0 0 1;", 0, -1);
        fault(1, "sign00 00 00 00 01;", 0, -1);
    }

    private static void noText() {
        fault(0, "wex 1;", 1, 0);
        fault(0, "wets 1;", 1, 0);
        fault(0, "we", 1, 0);
        fault(0, "Wet 1;", 1, 0);
        fault(0, "5", 1, 0);
        fault(0, " ;", 1, 1);
        fault(0, "wet ;", 1, 4);
        fault(0, "wet 1", 1, 5);
        fault(0, "wet 1  ", 1, 7);
        fault(0, "wet", 1, 3);
        fault(0, "wet 1 2;", 1, 6);
        fault(0, "wet 1wet 2;", 1, 5);
        fault(0, "wet 1;;", 1, 6);
        fault(0, "wet 1\t;", 1, 5);
        fault(0, "wet 001;", 1, 4);
        fault(0, "wet -1;", 1, 4);
        fault(0, "walk 0 0 0;", 1, 10);
        fault(0, "walk 0 0 0 0 wet;", 1, 13);
        fault(0, "walk 0 0 0 0 123;", 1, 13);
        fault(0, "sign 0 0 0 0 1;", 1, 0);
        fault(1, "wet 1;", 1, 0);
        fault(1, "sign 0 0 0 0;", 1, 12);
        fault(1, "sign 0 0 0 0 1 1;", 1, 15);
    }

    private static void badNumbers() {
        fault(0, "size 1 2;", 2, 5);
        fault(0, "size 9 2;", 2, 5);
        fault(0, "size 2 1;", 2, 7);
        fault(0, "size 2 9;", 2, 7);
        fault(0, "wet 10;", 2, 4);
        fault(0, "foot 6 1 1 0;", 2, 5);
        fault(0, "foot 0 0 1 0;", 2, 7);
        fault(0, "foot 0 4 1 0;", 2, 7);
        fault(0, "foot 0 1 0 0;", 2, 9);
        fault(0, "foot 0 1 10 0;", 2, 9);
        fault(0, "foot 0 1 1 3;", 2, 11);
        fault(0, "walk 6 0 0 0;", 2, 5);
        fault(0, "walk 0 64 0 0;", 2, 7);
        fault(0, "walk 0 0 61 0;", 2, 9);
        fault(0, "walk 0 0 0 4;", 2, 11);
        fault(0, "walk 0 0 0 3 3 4;", 2, 15);
        fault(0, "carry 6 0;", 2, 6);
        fault(0, "carry 0 6;", 2, 8);
        fault(0, "carry 3 3;", 2, 8);
        fault(0, "carry 7 7;", 2, 6);
        fault(0, "feet 6;", 2, 5);
        fault(0, "hands 6;", 2, 6);
        fault(0, "rolled 6;", 2, 7);
        fault(0, "rain 100;", 1, 5);
        fault(0, "errand 6 0 0;", 2, 7);
        fault(0, "errand 0 64 0;", 2, 9);
        fault(0, "errand 0 0 64;", 2, 11);
        fault(1, "sign 64 0 0 0 1;", 2, 5);
        fault(1, "sign 0 7 0 0 1;", 2, 7);
        fault(1, "sign 0 0 2 0 1;", 2, 9);
        fault(1, "sign 0 0 0 4 1;", 2, 11);
        fault(1, "sign 0 0 0 0 0;", 2, 13);
    }

    private static void tooMany() {
        fault(0, "foot 0 1 1 0;".repeat(6), 0, -1);
        fault(0, "foot 0 1 1 0;".repeat(7), 3, 78);
        fault(0, "foot 0 1 1 0;" + "errand 0 0 0;".repeat(5), 0, -1);
        fault(0, "errand 0 0 0;".repeat(6), 3, 65);
        fault(0, "walk 0 0 0" + " 1".repeat(25) + ";", 3, 59);
        fault(0, "walk 0 0 0" + " 1".repeat(30) + ";", 3, 59);
        fault(1, "sign 0 0 0 0 1;".repeat(10), 0, -1);
        fault(1, "sign 0 0 0 0 1;".repeat(11), 3, 150);
    }

    private static void notThere() {
        fault(0, "hands 0;", 4, 8);
        fault(0, "feet 0; ", 4, 8);
        fault(0, "rolled 1;foot 0 1 1 0;", 4, 22);
        fault(0, "foot 0 1 1 0;carry 0 1;", 4, 23);
        fault(0, "foot 0 1 1 0;carry 1 0;", 4, 23);
        fault(0, "foot 0 1 1 0;walk 1 0 0 0;", 4, 26);
        fault(0, "foot 0 1 1 0;walk 0 36 0 0;", 4, 27);
        fault(0, "foot 0 1 1 0;walk 0 36 0 0;size 7 6;", 0, -1);
        fault(0, "size 7 6;foot 0 1 1 0;walk 0 36 0 0;size 6 6;", 4, 45);
        fault(0, "foot 0 1 1 0;walk 0 36 0 0;walk 0 1 0 0;", 4, 40);
        fault(0, "foot 0 1 1 0;errand 0 36 0;", 4, 27);
        fault(0, "foot 0 1 1 0;errand 0 0 36;", 4, 27);
        fault(0, "errand 0 0 1;", 4, 13);
    }

    private static void whichFault() {
        fault(0, "wet 10; wex", 1, 8);
        fault(0, "hands 1; wet 10; wet 11;", 2, 13);
        fault(0, "foot 0 1 1 0;".repeat(7) + "wet 10;", 3, 78);
        fault(0, "foot 9 1 1 0;" + "foot 0 1 1 0;".repeat(6), 2, 5);
        fault(0, "foot 0 1 1 0;".repeat(6) + "foot 9 1 1 0;", 3, 78);
        fault(0, "walk 0 0 0" + " 1".repeat(24) + " 9;", 2, 59);
        fault(0, "walk 0 0 0" + " 1".repeat(25) + " 9;", 3, 59);
        fault(0, "walk 0 0 0" + " 1".repeat(25), 1, 60);
    }
}
