/** What each method answers if there is none such; the other arguments would do. */
final class NoSuch {
    private NoSuch() {
    }

    /** There is no such NIGHT; the reading may be there. */
    static void night(ClayPrints x, int night, int reading) {
        String call = " of night " + night;
        Check.due("night" + call, -1, x.night(night, 0));
        Check.due("person" + call, -2, x.person(night, 0, 0));
        Check.due("where" + call, -2, x.where(night, 0, 0));
        Check.due("print" + call, -2, x.print(night, 0, 0, 0));
        Check.due("prints" + call, -2, x.print(night, 0, -1, 0));
        Check.due("cell" + call, -2, x.cell(night, 0, 0, 0));
        Check.due("gait" + call, -2, x.gait(night, 0, 0));
        Check.due("tax" + call, -1, x.tax(night, 0, 0));
        Check.due("tax of all" + call, -1, x.tax(night, 0, -1));
        Check.due("fair" + call, -1, x.fair(night, 0, false));
        Check.due("fair, under" + call, -1, x.fair(night, 0, true));
        Check.due("alone" + call, -2, x.alone(night, 0));
        Check.due("leaves" + call, -2, x.alone(night, -1));
        Check.due("pays" + call, -1, x.pays(night, 0));
        Check.due("yield" + call, -1, x.pays(night, -1));
        Check.due("traps" + call, -1, x.traps(night, 1, 0));
        Check.due("near" + call, -1, x.near(night, 0, 14, 0));
        Check.due("way" + call, -1, x.way(night, 0, 0, 0, 0));
        Check.due("tour" + call, -1, x.tour(night, 0));
        Check.due("makers" + call, -2, x.makers(night, reading, 0));
        Check.due("forged" + call, -2, x.makers(night, reading, -1));
        Check.due("follows" + call, -2, x.follows(night, reading, 0));
        Check.due("couples" + call, -2, x.follows(night, reading, -1));
        Check.due("walks" + call, -2, x.walks(night, reading, 0));
        Check.due("drawn" + call, -1, x.drawn(night, 1, 0, 0));
        Check.due("dawn" + call, -2, x.dawn(night, 0));
        Check.due("carried" + call, -1, x.carried(night, 0, 1, true));
        Check.due("shoes" + call, -1, x.better(night, 0, false));
        Check.due("hour" + call, -1, x.better(night, 0, true));
        Check.due("thieves" + call, -1, x.thieves(night, 0, 0, 99));
        Check.due("row" + call, -2, x.row(night, reading, 1));
    }

    /** There is no such READING; the night may be there. */
    static void reading(ClayPrints x, int night, int reading) {
        String call = " of reading " + reading;
        Check.due("sign" + call, -2, x.sign(reading, 0, 0));
        Check.due("signs" + call, -2, x.sign(reading, -1, 0));
        Check.due("makers" + call, -2, x.makers(night, reading, 0));
        Check.due("forged" + call, -2, x.makers(night, reading, -1));
        Check.due("follows" + call, -2, x.follows(night, reading, 0));
        Check.due("couples" + call, -2, x.follows(night, reading, -1));
        Check.due("walks" + call, -2, x.walks(night, reading, 0));
        Check.due("ways" + call, -2, x.walks(night, reading, 1));
        Check.due("row" + call, -2, x.row(night, reading, 1));
    }

    /** The night has two of PEOPLE at least, but not this one. */
    static void person(ClayPrints x, int night, int person) {
        String call = " of person " + person;
        for (int what = 0; what <= 9; what++) {
            Check.due("person " + what + call, -2, x.person(night, person, what));
        }
        Check.due("where" + call, -2, x.where(night, person, 0));
        Check.due("gait" + call, -2, x.gait(night, person, 0));
        // NONE is all of them there.
        if (person != -1) {
            Check.dueRow("tax" + call, 0, law -> x.tax(night, law, person), -1, -1, -1);
            Check.due("alone" + call, -2, x.alone(night, person));
        }
        Check.due("fair" + call, -1, x.fair(night, person, false));
        Check.due("fair, under" + call, -1, x.fair(night, person, true));
        Check.due("way" + call, -1, x.way(night, person, 0, 0, 0));
        Check.due("drawn" + call, -1, x.drawn(night, 1, 0, 10 + person));
        Check.due("dawn" + call, -2, x.dawn(night, 10 + person));
        Check.due("carried" + call, -1, x.carried(night, person, 0, true));
        Check.due("carried by" + call, -1, x.carried(night, 0, person, false));
        Check.due("carrier" + call, -1, x.carried(night, 0, person, true));
        Check.due("shoes" + call, -1, x.better(night, person, false));
        Check.due("hour" + call, -1, x.better(night, person, true));
    }
}
