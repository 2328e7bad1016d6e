import java.util.ArrayList;
import java.util.List;

/** Some hundred answers that tell what an object has been told; asking leaves it as it is. */
final class Asked {
    private Asked() {
    }

    /** The tape has so many bytes: fewer or more show, too. */
    static List<Long> of(ClayPrints x, int tape) {
        List<Long> answers = new ArrayList<>();
        add(answers, x.end(tape + 1), x.end(tape), x.fault(0), x.fault(1), x.count(0), x.count(1));
        for (int night = 0; night < x.count(0); night++) {
            night(answers, x, night);
        }
        for (int reading = 0; reading < x.count(1); reading++) {
            int signs = x.sign(reading, -1, 0);
            add(answers, signs);
            for (int what = 0; what <= 4 && signs > 0; what++) {
                add(answers, x.sign(reading, 0, what), x.sign(reading, signs - 1, what));
            }
        }
        return answers;
    }

    private static void night(List<Long> answers, ClayPrints x, int night) {
        for (int what = 0; what <= 5; what++) {
            add(answers, x.night(night, what));
        }
        add(answers, x.night(night, 10), x.night(night, 20), x.night(night, 30));
        int people = x.night(night, 3);
        for (int what = 0; what <= 9 && people > 0; what++) {
            add(answers, x.person(night, 0, what), x.person(night, people - 1, what));
        }
        add(answers, x.print(night, 99, -1, 0), x.print(night, 5, -1, 0), x.tax(night, 2, -1), x.tour(night, 0), x.dawn(night, 2));
        if (x.count(1) > 0) {
            add(answers, x.makers(night, 0, -1), x.follows(night, 0, -1), x.walks(night, 0, 0), x.walks(night, 0, 10));
        }
    }

    private static void add(List<Long> answers, long... more) {
        for (long answer : more) {
            answers.add(answer);
        }
    }
}
