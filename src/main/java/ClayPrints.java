import java.util.Arrays;

/** Nights on squares of wet clay: whose prints lie there, what they cost, and what readings of them tell. */
public final class ClayPrints {
    /** There is none. */
    public static final int NONE = -1;

    private static final int NO_SUCH = -2;

    private static final int NIGHTS = 0;
    private static final int READINGS = 1;
    private static final int MOST_TEXTS = 2;
    private static final int MOST_IMAGES = 3;
    private static final int MOST_BYTES = 600;
    private static final int BYTES_FED = 20;

    private static final int MOST_CELLS = 64;
    private static final int MOST_PEOPLE = 6;
    private static final int MOST_STEPS = 24;
    private static final int MOST_PRINTS = MOST_PEOPLE * (MOST_STEPS + 1);
    private static final int MOST_ERRANDS = 5;
    private static final int MOST_SIGNS = 10;
    private static final int MOST_WAY_STEPS = 40;
    private static final int MOST_TRAPS = 3;
    private static final int LONGEST_ROW_ASKED = 4;
    private static final int FARTHEST = 14;
    private static final int MINUTES = 100;
    private static final int DAWN = MINUTES - 1;
    private static final int LAST_HOUR = 60;
    private static final int SOLES = 6;
    private static final int SIDES = 4;

    private static final int HANDS = 1;
    private static final int ROLLED = 2;
    private static final int HAND_SOLE = 6;

    private static final int BY_FOOT = 0;
    private static final int BY_YARD = 1;
    private static final int BY_DEPTH = 2;
    private static final int LAWS = 3;

    /** Each number of users, 1 to 6, divides it. */
    private static final int WHOLE_PRINT = 60;

    private final Told told = new Told();
    private final Told[] images = new Told[MOST_IMAGES];
    private final boolean[] imaged = new boolean[MOST_IMAGES];
    private final Scribe scribe = new Scribe();
    private final Clay clay = new Clay();
    private final Night guess = new Night();
    private final Clay guessed = new Clay();
    private final int[] ground = new int[MOST_CELLS];
    private final Way shortest = new Way();
    private final Traps snares = new Traps();
    private final Tour round = new Tour();
    private int roundNight = NONE;
    private final Rows rows = new Rows();
    private int rowsNight = NONE;
    private int rowsReading = NONE;

    public ClayPrints() {
        for (int k = 0; k < images.length; k++) {
            images[k] = new Told();
        }
    }

    // ---- what is told

    public int feed(int a, int b, int c, int d, int e) {
        if (told.length + BYTES_FED > MOST_BYTES) {
            return NONE;
        }
        told.append(a);
        told.append(b);
        told.append(c);
        told.append(d);
        told.append(e);
        return told.length;
    }

    public int end(int n) {
        if (n < 0 || n > told.length) {
            return NONE;
        }
        told.length = n;
        return n;
    }

    public int text(int sort, int at) {
        int length = told.length;
        told.length = 0;
        told.fault = 0;
        told.faultPlace = NONE;
        int slot = told.slotFor(sort, at);
        if (slot == NONE) {
            return NO_SUCH;
        }
        if (!scribe.read(told.tape, length, sort)) {
            told.fault = scribe.fault;
            told.faultPlace = scribe.faultPlace;
            return NONE;
        }
        if (sort == NIGHTS) {
            told.tellNight(slot, scribe.night);
        } else {
            told.tellReading(slot, scribe.reading);
        }
        forgetFindings();
        return slot;
    }

    public int fault(int what) {
        if (what == 0) {
            return told.fault;
        }
        return what == 1 ? told.faultPlace : NONE;
    }

    public int count(int sort) {
        if (sort == NIGHTS) {
            return told.nightCount;
        }
        return sort == READINGS ? told.readingCount : NO_SUCH;
    }

    public boolean image(int k) {
        if (k < 0 || k >= images.length || k >= imaged.length) {
            return false;
        }
        images[k].copyFrom(told);
        imaged[k] = true;
        return true;
    }

    public boolean again(int k) {
        if (k < 0 || k >= images.length || k >= imaged.length || !imaged[k]) {
            return false;
        }
        told.copyFrom(images[k]);
        forgetFindings();
        return true;
    }

    /** Tours and rows are dear to find, so they are kept until other texts stand. */
    private void forgetFindings() {
        roundNight = NONE;
        rowsNight = NONE;
        rowsReading = NONE;
    }

    // ---- a night as it is told

    public int night(int night, int what) {
        Night n = told.nightAt(night);
        if (n == null) {
            return NONE;
        }
        switch (what) {
            case 0: return n.width;
            case 1: return n.height;
            case 2: return n.wet;
            case 3: return n.people;
            case 4: return n.errands;
            case 5: return n.rainyMinutes();
            default: return n.errandPart(what);
        }
    }

    public int person(int night, int person, int what) {
        Night n = told.nightAt(night);
        Person one = n == null ? null : n.member(person);
        if (one == null) {
            return NO_SUCH;
        }
        switch (what) {
            case 0: return one.sole;
            case 1: return one.stride;
            case 2: return one.weight;
            case 3: return one.limp;
            case 4: return one.manner;
            case 5: return one.carrier;
            case 6: return one.start;
            case 7: return one.begins;
            case 8: return one.steps;
            case 9: return n.stepsMade(one);
            default: return NO_SUCH;
        }
    }

    public int where(int night, int person, int minute) {
        Night n = told.nightAt(night);
        if (n == null || n.member(person) == null || !isMinute(minute)) {
            return NO_SUCH;
        }
        return n.spot(person, minute);
    }

    public int near(int night, int cell, int r, int minute) {
        Night n = told.nightAt(night);
        if (n == null || !n.hasCell(cell) || r < 0 || r > FARTHEST || !isMinute(minute)) {
            return NONE;
        }
        int bits = 0;
        for (int p = 0; p < n.people; p++) {
            int spot = n.spot(p, minute);
            if (spot != NONE && n.distance(spot, cell) <= r) {
                bits |= 1 << p;
            }
        }
        return bits;
    }

    // ---- the clay

    public int print(int night, int minute, int k, int what) {
        Night n = told.nightAt(night);
        if (n == null || !isMinute(minute)) {
            return NO_SUCH;
        }
        clay.lay(n, minute);
        if (k == NONE) {
            return what == 0 ? clay.count : NO_SUCH;
        }
        return clay.part(k, what);
    }

    public int cell(int night, int minute, int cell, int what) {
        Night n = told.nightAt(night);
        if (n == null || !isMinute(minute) || !n.hasCell(cell)) {
            return NO_SUCH;
        }
        clay.lay(n, minute);
        switch (what) {
            case 0: return clay.heightOf(cell);
            case 1: return clay.topOf(cell);
            case 2: return clay.depthOf(cell);
            case 3: return clay.usersOf(cell);
            default: return NO_SUCH;
        }
    }

    public int gait(int night, int person, int what) {
        Night n = told.nightAt(night);
        if (n == null || n.member(person) == null) {
            return NO_SUCH;
        }
        clay.lay(n, DAWN);
        switch (what) {
            case 0: return get(clay.feet, person);
            case 1: return get(clay.pressed, person);
            case 2: return get(clay.stepped, person);
            case 3: return get(clay.followed, person);
            default: return NO_SUCH;
        }
    }

    public int dawn(int night, int what) {
        Night n = told.nightAt(night);
        if (n == null) {
            return NO_SUCH;
        }
        clay.lay(n, DAWN);
        switch (what) {
            case 0: return clay.hidden();
            case 1: return clay.twins();
            case 2: return clay.deepest();
            default: return n.member(what - 10) == null ? NO_SUCH : clay.madeBy(what - 10);
        }
    }

    public int thieves(int night, int cell, int f, int t) {
        Night n = told.nightAt(night);
        if (n == null || !n.hasCell(cell) || !isMinute(f) || !isMinute(t) || f > t) {
            return NONE;
        }
        clay.lay(n, DAWN);
        int honest = clay.usersOf(cell);
        int bits = 0;
        for (int p = 0; p < n.people; p++) {
            if ((honest >> p & 1) == 0 && n.isIn(p, cell, f, t)) {
                bits |= 1 << p;
            }
        }
        return bits;
    }

    public int traps(int night, int k, int what) {
        Night n = told.nightAt(night);
        if (n == null || k < 1 || k > MOST_TRAPS || what < 0 || what > k) {
            return NONE;
        }
        clay.lay(n, DAWN);
        snares.set(clay, n.cells(), k);
        return what == 0 ? snares.caught : get(snares.chosen, what - 1);
    }

    // ---- taxes

    public int tax(int night, int law, int person) {
        Night n = told.nightAt(night);
        if (n == null || law < 0 || law >= LAWS) {
            return NONE;
        }
        if (person != NONE && n.member(person) == null) {
            return NONE;
        }
        clay.lay(n, DAWN);
        return clay.taxOf(n, law, person);
    }

    public long fair(int night, int person, boolean under) {
        Night n = told.nightAt(night);
        if (n == null || n.member(person) == null) {
            return NONE;
        }
        clay.lay(n, DAWN);
        int share = clay.shareOf(person);
        int common = Math.max(1, greatestDivisor(share));
        return (under ? WHOLE_PRINT : share) / common;
    }

    public int alone(int night, int person) {
        Night n = told.nightAt(night);
        if (n == null) {
            return NO_SUCH;
        }
        if (person == NONE) {
            return leavers(n);
        }
        return n.member(person) == null ? NO_SUCH : printsAlone(n, person);
    }

    private int leavers(Night n) {
        clay.lay(n, DAWN);
        int bits = 0;
        for (int p = 0; p < n.people; p++) {
            if (printsAlone(n, p) * WHOLE_PRINT < clay.shareOf(p)) {
                bits |= 1 << p;
            }
        }
        return bits;
    }

    private int printsAlone(Night n, int person) {
        guess.copyFrom(n);
        for (int p = 0; p < guess.people; p++) {
            Person other = guess.member(p);
            if (other != null && p != person) {
                other.stay();
            }
        }
        guessed.lay(guess, DAWN);
        return guessed.count;
    }

    public int pays(int night, int law) {
        Night n = told.nightAt(night);
        if (n == null) {
            return NONE;
        }
        if (law == NONE) {
            return dearestLaw(n);
        }
        return law < 0 || law >= LAWS ? NONE : dearestPayer(n, law);
    }

    private int dearestLaw(Night n) {
        clay.lay(n, DAWN);
        int best = 0;
        for (int law = 1; law < LAWS; law++) {
            if (clay.taxOf(n, law, NONE) > clay.taxOf(n, best, NONE)) {
                best = law;
            }
        }
        return best;
    }

    private int dearestPayer(Night n, int law) {
        clay.lay(n, DAWN);
        int most = NONE;
        int best = NONE;
        for (int p = 0; p < n.people; p++) {
            int due = clay.taxOf(n, law, p);
            if (due > most) {
                most = due;
                best = p;
            }
        }
        return best;
    }

    // ---- what would be

    public int drawn(int night, int seed, int k, int what) {
        Night n = told.nightAt(night);
        if (n == null || k < 0 || k > 100) {
            return NONE;
        }
        guess.copyFrom(n);
        int rains = guess.drawRains(seed, k);
        guessed.lay(guess, DAWN);
        switch (what) {
            case 0: return guessed.count;
            case 1: return guessed.taxOf(guess, BY_DEPTH, NONE);
            case 2: return rains;
            default: return n.member(what - 10) == null ? NONE : guessed.madeBy(what - 10);
        }
    }

    public int carried(int night, int a, int b, boolean other) {
        Night n = told.nightAt(night);
        if (n == null || n.member(a) == null || n.member(b) == null || a == b) {
            return NONE;
        }
        guess.copyFrom(n);
        Person one = guess.member(a);
        if (one != null) {
            one.carrier = b;
        }
        guessed.lay(guess, DAWN);
        return guessed.madeBy(other ? b : a);
    }

    public int better(int night, int person, boolean hour) {
        Night n = told.nightAt(night);
        if (n == null || n.member(person) == null) {
            return NONE;
        }
        guess.copyFrom(n);
        Person one = guess.member(person);
        if (one == null) {
            return NONE;
        }
        if (!hour) {
            return bestSole(one);
        }
        return one.start == NONE ? NONE : bestHour(person, one);
    }

    /** The one is of the guessed night. */
    private int bestSole(Person one) {
        int best = NONE;
        int least = MOST_PRINTS + 1;
        for (int sole = 0; sole < SOLES; sole++) {
            one.sole = sole;
            guessed.lay(guess, DAWN);
            if (guessed.count < least) {
                least = guessed.count;
                best = sole;
            }
        }
        return best;
    }

    /** The one is of the guessed night. */
    private int bestHour(int person, Person one) {
        int best = NONE;
        int least = MOST_PRINTS + 1;
        for (int minute = 0; minute <= LAST_HOUR; minute++) {
            one.begins = minute;
            guessed.lay(guess, DAWN);
            int made = guessed.madeBy(person);
            if (made < least) {
                least = made;
                best = minute;
            }
        }
        return best;
    }

    // ---- ways

    public int way(int night, int person, int from, int to, int what) {
        Night n = told.nightAt(night);
        if (n == null || n.member(person) == null || !n.hasCell(from) || !n.hasCell(to)) {
            return NONE;
        }
        clay.lay(n, DAWN);
        clay.showTops(ground);
        shortest.seek(n, ground, person, from, to);
        if (shortest.prints == NONE) {
            return NONE;
        }
        switch (what) {
            case 0: return shortest.prints;
            case 1: return shortest.steps;
            default: return what >= 10 && what - 10 < shortest.steps ? get(shortest.sides, what - 10) : NONE;
        }
    }

    public int tour(int night, int what) {
        Night n = told.nightAt(night);
        if (n == null) {
            return NONE;
        }
        if (roundNight != night) {
            clay.lay(n, DAWN);
            clay.showTops(ground);
            round.begin(n, ground);
            round.extend(0, 0, 0);
            roundNight = night;
        }
        if (round.prints == NONE) {
            return NONE;
        }
        switch (what) {
            case 0: return round.prints;
            case 1: return round.steps;
            default: return what >= 10 && what - 10 < n.errands ? get(round.best, what - 10) : NONE;
        }
    }

    // ---- readings

    public int sign(int reading, int k, int what) {
        Reading r = told.readingAt(reading);
        if (r == null) {
            return NO_SUCH;
        }
        if (k == NONE) {
            return what == 0 ? r.signs : NO_SUCH;
        }
        return r.hasSign(k) ? r.part(k, what) : NO_SUCH;
    }

    public int makers(int night, int reading, int k) {
        Reading r = told.readingAt(reading);
        if (r == null || k != NONE && !r.hasSign(k) || !compare(night, reading)) {
            return NO_SUCH;
        }
        return k == NONE ? rows.forged() : get(rows.makers, k);
    }

    public int follows(int night, int reading, int k) {
        Reading r = told.readingAt(reading);
        if (r == null || k != NONE && !r.hasSign(k) || !compare(night, reading)) {
            return NO_SUCH;
        }
        return k == NONE ? rows.couples() : get(rows.followers, k);
    }

    public int walks(int night, int reading, int what) {
        Reading r = told.readingAt(reading);
        if (r == null || !compare(night, reading)) {
            return NO_SUCH;
        }
        rows.countFewest();
        switch (what) {
            case 0: return rows.fewest;
            case 1: return rows.allWays;
            default: return r.hasSign(what - 10) ? get(rows.firstWay, what - 10) : NO_SUCH;
        }
    }

    public int row(int night, int reading, int k) {
        if (k < 1 || k > LONGEST_ROW_ASKED || !compare(night, reading)) {
            return NO_SUCH;
        }
        return rows.fewestOf(k, true);
    }

    /** Makes the rows those of this night and reading; false if there is none such. */
    private boolean compare(int night, int reading) {
        Night n = told.nightAt(night);
        Reading r = told.readingAt(reading);
        if (n == null || r == null) {
            return false;
        }
        if (rowsNight != night || rowsReading != reading) {
            rows.compare(n, r);
            rowsNight = night;
            rowsReading = reading;
        }
        return true;
    }

    // ---- rows of numbers

    /** An index that is not there reads as NONE, so that no slip can stop a call. */
    private static int get(int[] row, int i) {
        return row != null && i >= 0 && i < row.length ? row[i] : NONE;
    }

    private static void put(int[] row, int i, int value) {
        if (row != null && i >= 0 && i < row.length) {
            row[i] = value;
        }
    }

    private static void raise(int[] row, int i) {
        put(row, i, get(row, i) + 1);
    }

    private static void copy(int[] from, int[] to) {
        if (from != null && to != null) {
            System.arraycopy(from, 0, to, 0, Math.min(from.length, to.length));
        }
    }

    private static boolean isMinute(int minute) {
        return minute >= 0 && minute < MINUTES;
    }

    /** The greatest number that divides both a share and a whole print. */
    private static int greatestDivisor(int share) {
        for (int d = WHOLE_PRINT; d > 1; d--) {
            if (WHOLE_PRINT % d == 0 && share % d == 0) {
                return d;
            }
        }
        return 1;
    }

    /** What must be the same for one foot to fit another one's print, as one number. */
    private static int shape(int sole, int foot, int side) {
        return sole << 3 | foot << 2 | side;
    }

    private static int soleOf(int shape) {
        return shape >> 3;
    }

    private static int footOf(int shape) {
        return shape >> 2 & 1;
    }

    private static int sideOf(int shape) {
        return shape & 3;
    }

    /** All that is told, and so all that an image keeps. */
    private static final class Told {
        private final int[] tape = new int[MOST_BYTES];
        private int length;
        private int fault;
        private int faultPlace = NONE;
        private final Night[] nights = new Night[MOST_TEXTS];
        private int nightCount;
        private final Reading[] readings = new Reading[MOST_TEXTS];
        private int readingCount;

        private Told() {
            for (int i = 0; i < nights.length; i++) {
                nights[i] = new Night();
            }
            for (int i = 0; i < readings.length; i++) {
                readings[i] = new Reading();
            }
        }

        private void append(int number) {
            for (int shift = 24; shift >= 0; shift -= 8) {
                put(tape, length, number >>> shift & 255);
                length++;
            }
        }

        private Night nightAt(int i) {
            return i >= 0 && i < nightCount && i < nights.length ? nights[i] : null;
        }

        private Reading readingAt(int i) {
            return i >= 0 && i < readingCount && i < readings.length ? readings[i] : null;
        }

        /** Where a text of a sort goes, a further one at NONE; NONE if it can't go there. */
        private int slotFor(int sort, int at) {
            if (sort != NIGHTS && sort != READINGS) {
                return NONE;
            }
            int have = sort == NIGHTS ? nightCount : readingCount;
            if (at == NONE) {
                return have < MOST_TEXTS ? have : NONE;
            }
            return at >= 0 && at < have ? at : NONE;
        }

        private void tellNight(int slot, Night night) {
            if (slot >= 0 && slot < nights.length) {
                nights[slot].copyFrom(night);
                nightCount = Math.max(nightCount, slot + 1);
            }
        }

        private void tellReading(int slot, Reading reading) {
            if (slot >= 0 && slot < readings.length) {
                readings[slot].copyFrom(reading);
                readingCount = Math.max(readingCount, slot + 1);
            }
        }

        private void copyFrom(Told other) {
            copy(other.tape, tape);
            length = other.length;
            fault = other.fault;
            faultPlace = other.faultPlace;
            nightCount = other.nightCount;
            readingCount = other.readingCount;
            for (int i = 0; i < nights.length && i < other.nights.length; i++) {
                nights[i].copyFrom(other.nights[i]);
            }
            for (int i = 0; i < readings.length && i < other.readings.length; i++) {
                readings[i].copyFrom(other.readings[i]);
            }
        }
    }

    /** One of PEOPLE. */
    private static final class Person {
        private int sole;
        private int stride;
        private int weight;
        private int limp;
        private int manner;
        private int carrier;
        private int start;
        private int begins;
        private int steps;
        private final int[] sides = new int[MOST_STEPS];

        /** What a foot's line tells stays: without such a line of the same text nobody asks for it. */
        private void clear() {
            manner = 0;
            carrier = NONE;
            stay();
        }

        /** Takes his WALK from him. */
        private void stay() {
            start = NONE;
            begins = NONE;
            steps = 0;
        }

        private void copyFrom(Person other) {
            sole = other.sole;
            stride = other.stride;
            weight = other.weight;
            limp = other.limp;
            manner = other.manner;
            carrier = other.carrier;
            start = other.start;
            begins = other.begins;
            steps = other.steps;
            copy(other.sides, sides);
        }

        private boolean walksHimself() {
            return carrier == NONE && start != NONE;
        }

        /** The SIDE of the i-th FOOT he sets down: the first two have that of his first STEP. */
        private int sideAt(int i) {
            return get(sides, Math.max(0, i - 1));
        }

        private int depthUnder(int load, int foot) {
            return limp == foot + 1 ? Math.max(1, load / 2) : load;
        }
    }

    /** A NIGHT as a text tells it. */
    private static final class Night {
        private int width;
        private int height;
        private int wet;
        private int people;
        private int errands;
        private final Person[] persons = new Person[MOST_PEOPLE];
        private final int[] errandOne = new int[MOST_ERRANDS];
        private final int[] errandFrom = new int[MOST_ERRANDS];
        private final int[] errandTo = new int[MOST_ERRANDS];
        private final int[] rains = new int[MINUTES];

        private Night() {
            for (int p = 0; p < persons.length; p++) {
                persons[p] = new Person();
            }
            clear();
        }

        private void clear() {
            width = 6;
            height = 6;
            wet = 2;
            people = 0;
            errands = 0;
            for (int p = 0; p < persons.length; p++) {
                persons[p].clear();
            }
            Arrays.fill(rains, 0);
        }

        private void copyFrom(Night other) {
            width = other.width;
            height = other.height;
            wet = other.wet;
            people = other.people;
            errands = other.errands;
            for (int p = 0; p < persons.length && p < other.persons.length; p++) {
                persons[p].copyFrom(other.persons[p]);
            }
            copy(other.errandOne, errandOne);
            copy(other.errandFrom, errandFrom);
            copy(other.errandTo, errandTo);
            copy(other.rains, rains);
        }

        /** Null if the night has no such one. */
        private Person member(int p) {
            return p < people ? slot(p) : null;
        }

        /** A text may tell of one ahead of his foot. */
        private Person slot(int p) {
            return p >= 0 && p < persons.length ? persons[p] : null;
        }

        private int cells() {
            return width * height;
        }

        private boolean hasCell(int cell) {
            return cell >= 0 && cell < cells();
        }

        private int rainyMinutes() {
            int minutes = 0;
            for (int m = 0; m < rains.length; m++) {
                minutes += rains[m];
            }
            return minutes;
        }

        private int errandPart(int what) {
            if (what >= 10 && what - 10 < errands) {
                return get(errandOne, what - 10);
            }
            if (what >= 20 && what - 20 < errands) {
                return get(errandFrom, what - 20);
            }
            if (what >= 30 && what - 30 < errands) {
                return get(errandTo, what - 30);
            }
            return NONE;
        }

        /** The CELL some CELLS to a side of one; NONE if that leaves the square or there is none such. */
        private int beside(int cell, int side, int far) {
            if (cell < 0 || cell >= width * height || width < 1) {
                return NONE;
            }
            int row = cell / width;
            int column = cell % width;
            switch (side) {
                case 0: row -= far; break;
                case 1: column += far; break;
                case 2: row += far; break;
                default: column -= far; break;
            }
            boolean inside = row >= 0 && row < height && column >= 0 && column < width;
            return inside ? row * width + column : NONE;
        }

        private int distance(int a, int b) {
            if (width < 1) {
                return 0;
            }
            return Math.abs(a / width - b / width) + Math.abs(a % width - b % width);
        }

        private int stepsMade(Person one) {
            if (!one.walksHimself()) {
                return 0;
            }
            int cell = one.start;
            for (int i = 1; i <= one.steps; i++) {
                cell = beside(cell, one.sideAt(i), one.stride);
                if (cell == NONE) {
                    return i - 1;
                }
            }
            return one.steps;
        }

        /** One's CELL in a minute. */
        private int spot(int p, int minute) {
            Person one = member(p);
            if (one == null) {
                return NONE;
            }
            if (one.carrier == NONE) {
                return walkedTo(one, minute);
            }
            Person carrier = member(one.carrier);
            if (carrier == null) {
                return NONE;
            }
            return carrier.carrier == NONE ? walkedTo(carrier, minute) : one.start;
        }

        private int walkedTo(Person one, int minute) {
            if (one.start == NONE || minute < one.begins) {
                return NONE;
            }
            int cell = one.start;
            for (int i = 1; i <= one.steps && i <= minute - one.begins; i++) {
                int next = beside(cell, one.sideAt(i), one.stride);
                if (next == NONE) {
                    return cell;
                }
                cell = next;
            }
            return cell;
        }

        private boolean isIn(int p, int cell, int from, int to) {
            for (int minute = from; minute <= to; minute++) {
                if (spot(p, minute) == cell) {
                    return true;
                }
            }
            return false;
        }

        /** What one's FEET bear: himself, those he carries himself, and the wet. */
        private int loadOf(int p) {
            int load = wet;
            for (int q = 0; q < people; q++) {
                Person one = member(q);
                if (one != null && (q == p || one.carrier == p)) {
                    load += one.weight;
                }
            }
            return load;
        }

        /** Lets it rain besides, and tells how many RAINS were drawn. */
        private int drawRains(int seed, int below) {
            int x = seed;
            int drawn = 0;
            for (int m = 0; m < rains.length; m++) {
                x = x * 1103515245 + 12345;
                if ((x >>> 16) % 100 < below) {
                    rains[m] = 1;
                    drawn++;
                }
            }
            return drawn;
        }
    }

    /** A READING as a text tells it. */
    private static final class Reading {
        private int signs;
        private final int[] cells = new int[MOST_SIGNS];
        private final int[] soles = new int[MOST_SIGNS];
        private final int[] feet = new int[MOST_SIGNS];
        private final int[] sides = new int[MOST_SIGNS];
        private final int[] depths = new int[MOST_SIGNS];

        private void copyFrom(Reading other) {
            signs = other.signs;
            copy(other.cells, cells);
            copy(other.soles, soles);
            copy(other.feet, feet);
            copy(other.sides, sides);
            copy(other.depths, depths);
        }

        private boolean hasSign(int k) {
            return k >= 0 && k < signs;
        }

        private int part(int k, int what) {
            switch (what) {
                case 0: return get(cells, k);
                case 1: return get(soles, k);
                case 2: return get(feet, k);
                case 3: return get(sides, k);
                case 4: return get(depths, k);
                default: return NO_SUCH;
            }
        }
    }

    /** Reads a tape as a text of a sort, into a night or a reading of its own. */
    private static final class Scribe {
        private static final int SIZE = 0;
        private static final int WET = 1;
        private static final int FOOT = 2;
        private static final int WALK = 3;
        private static final int CARRY = 4;
        private static final int ON_FEET = 5;
        private static final int ON_HANDS = 6;
        private static final int IS_ROLLED = 7;
        private static final int RAIN = 8;
        private static final int ERRAND = 9;
        private static final int SIGN = 10;

        private static final int COLUMNS = 5;
        private static final int FIRST_SIDE = 3;
        /** By line: how many NUMBERS it has (a walk at least). */
        private static final int[] NUMBERS = {2, 1, 4, 4, 2, 1, 1, 1, 1, 3, 5};
        /** By line and column: the least that a NUMBER can be. */
        private static final int[] LEAST = {
            2, 2, 0, 0, 0,
            0, 0, 0, 0, 0,
            0, 1, 1, 0, 0,
            0, 0, 0, 0, 0,
            0, 0, 0, 0, 0,
            0, 0, 0, 0, 0,
            0, 0, 0, 0, 0,
            0, 0, 0, 0, 0,
            0, 0, 0, 0, 0,
            0, 0, 0, 0, 0,
            0, 0, 0, 0, 1,
        };
        /** By line and column: the most that a NUMBER can be. */
        private static final int[] MOST = {
            8, 8, 0, 0, 0,
            9, 0, 0, 0, 0,
            5, 3, 9, 2, 0,
            5, 63, 60, 3, 0,
            5, 5, 0, 0, 0,
            5, 0, 0, 0, 0,
            5, 0, 0, 0, 0,
            5, 0, 0, 0, 0,
            99, 0, 0, 0, 0,
            5, 63, 63, 0, 0,
            63, 6, 1, 3, 99,
        };

        private static final int NO_TOKEN = 0;
        private static final int WORD = 1;
        private static final int NUMBER = 2;
        private static final int STOP = 3;
        private static final int END = 4;

        private static final int NO_TEXT = 1;
        private static final int CANNOT_BE = 2;
        private static final int TOO_MANY = 3;
        private static final int NOT_THERE = 4;

        private final Night night = new Night();
        private final Reading reading = new Reading();
        private int fault;
        private int faultPlace;

        private int[] tape;
        private int length;
        private int token;
        private int place;
        private int after;
        private int value;
        private final int[] numbers = new int[FIRST_SIDE + MOST_STEPS];
        private int farthestCell;
        private int farthestOne;

        /** False if there is a FAULT. */
        private boolean read(int[] bytes, int byteCount, int sort) {
            tape = bytes;
            length = byteCount;
            after = 0;
            fault = 0;
            faultPlace = NONE;
            farthestCell = NONE;
            farthestOne = NONE;
            night.clear();
            reading.signs = 0;
            next();
            for (int lines = 0; token != END && lines < MOST_BYTES; lines++) {
                if (!readLine(sort)) {
                    fault = NO_TEXT;
                    faultPlace = place;
                    return false;
                }
            }
            if (!night.hasCell(Math.max(0, farthestCell)) || farthestOne >= night.people) {
                note(NOT_THERE);
            }
            return fault == 0;
        }

        /** False at a token with which no text goes on. */
        private boolean readLine(int sort) {
            int line = lineTold(sort);
            if (line == NONE) {
                return false;
            }
            if (isFull(line)) {
                note(TOO_MANY);
            }
            next();
            int least = get(NUMBERS, line);
            int had = 0;
            while (token == NUMBER && (had < least || line == WALK) && had < MOST_BYTES) {
                weigh(line, had);
                put(numbers, had, value);
                had++;
                next();
            }
            if (had < least || token != STOP) {
                return false;
            }
            if (fault == 0) {
                tell(line, had);
            }
            next();
            return true;
        }

        private int lineTold(int sort) {
            int first = sort == NIGHTS ? SIZE : SIGN;
            int last = sort == NIGHTS ? ERRAND : SIGN;
            for (int line = first; line <= last && token == WORD; line++) {
                if (spells(wordOf(line))) {
                    return line;
                }
            }
            return NONE;
        }

        private static String wordOf(int line) {
            switch (line) {
                case SIZE: return "size";
                case WET: return "wet";
                case FOOT: return "foot";
                case WALK: return "walk";
                case CARRY: return "carry";
                case ON_FEET: return "feet";
                case ON_HANDS: return "hands";
                case IS_ROLLED: return "rolled";
                case RAIN: return "rain";
                case ERRAND: return "errand";
                default: return "sign";
            }
        }

        private boolean spells(String word) {
            if (after - place != word.length()) {
                return false;
            }
            for (int i = 0; i < word.length(); i++) {
                if (get(tape, place + i) != word.charAt(i)) {
                    return false;
                }
            }
            return true;
        }

        private boolean isFull(int line) {
            switch (line) {
                case FOOT: return night.people >= MOST_PEOPLE;
                case ERRAND: return night.errands >= MOST_ERRANDS;
                case SIGN: return reading.signs >= MOST_SIGNS;
                default: return false;
            }
        }

        /** Tokens come by their places, so the first note of all is the one that counts. */
        private void note(int kind) {
            if (fault == 0) {
                fault = kind;
                faultPlace = place;
            }
        }

        private void weigh(int line, int i) {
            int column = line * COLUMNS + Math.min(i, line == WALK ? FIRST_SIDE : COLUMNS - 1);
            boolean carriesHimself = line == CARRY && i == 1 && value == get(numbers, 0);
            if (value < get(LEAST, column) || value > get(MOST, column) || carriesHimself) {
                note(CANNOT_BE);
            }
            if (line == WALK && i == FIRST_SIDE + MOST_STEPS) {
                note(TOO_MANY);
            }
        }

        private void tell(int line, int had) {
            int a = get(numbers, 0);
            int b = get(numbers, 1);
            int c = get(numbers, 2);
            switch (line) {
                case SIZE:
                    night.width = a;
                    night.height = b;
                    break;
                case WET: night.wet = a; break;
                case FOOT: tellFoot(a, b, c, get(numbers, 3)); break;
                case WALK: tellWalk(a, b, c, had - FIRST_SIDE); break;
                case CARRY: tellCarry(a, b); break;
                case ON_FEET: tellManner(a, 0); break;
                case ON_HANDS: tellManner(a, HANDS); break;
                case IS_ROLLED: tellManner(a, ROLLED); break;
                case RAIN: put(night.rains, a, 1); break;
                case ERRAND: tellErrand(a, b, c); break;
                default: tellSign(); break;
            }
        }

        private void tellFoot(int sole, int stride, int weight, int limp) {
            Person one = night.slot(night.people);
            if (one != null) {
                one.sole = sole;
                one.stride = stride;
                one.weight = weight;
                one.limp = limp;
                night.people++;
            }
        }

        private void tellWalk(int who, int cell, int minute, int steps) {
            Person one = night.slot(who);
            if (one != null) {
                one.start = cell;
                one.begins = minute;
                one.steps = Math.min(steps, MOST_STEPS);
                for (int i = 0; i < one.steps; i++) {
                    put(one.sides, i, get(numbers, FIRST_SIDE + i));
                }
            }
            farthestOne = Math.max(farthestOne, who);
            farthestCell = Math.max(farthestCell, cell);
        }

        private void tellCarry(int carrier, int whom) {
            Person one = night.slot(whom);
            if (one != null) {
                one.carrier = carrier;
            }
            farthestOne = Math.max(farthestOne, Math.max(carrier, whom));
        }

        private void tellManner(int who, int manner) {
            Person one = night.slot(who);
            if (one != null) {
                one.manner = manner;
            }
            farthestOne = Math.max(farthestOne, who);
        }

        private void tellErrand(int who, int from, int to) {
            put(night.errandOne, night.errands, who);
            put(night.errandFrom, night.errands, from);
            put(night.errandTo, night.errands, to);
            night.errands++;
            farthestOne = Math.max(farthestOne, who);
            farthestCell = Math.max(farthestCell, Math.max(from, to));
        }

        private void tellSign() {
            put(reading.cells, reading.signs, get(numbers, 0));
            put(reading.soles, reading.signs, get(numbers, 1));
            put(reading.feet, reading.signs, get(numbers, 2));
            put(reading.sides, reading.signs, get(numbers, 3));
            put(reading.depths, reading.signs, get(numbers, 4));
            reading.signs++;
        }

        /** The token behind the one read; at the end its place is the end's. */
        private void next() {
            place = after;
            while (place < length && isBlank(get(tape, place))) {
                place++;
            }
            if (place >= length) {
                token = END;
                after = place;
                return;
            }
            int sign = get(tape, place);
            after = place + 1;
            if (isLetter(sign)) {
                token = WORD;
                while (after < length && isLetter(get(tape, after))) {
                    after++;
                }
            } else if (isDigit(sign)) {
                nextNumber(sign - '0');
            } else {
                token = sign == ';' ? STOP : NO_TOKEN;
            }
        }

        private void nextNumber(int firstDigit) {
            value = firstDigit;
            while (after < length && isDigit(get(tape, after))) {
                value = (value * 10 + get(tape, after) - '0') % 1000;
                after++;
            }
            token = after - place <= 2 ? NUMBER : NO_TOKEN;
        }

        private static boolean isBlank(int sign) {
            return sign == 10 || sign == 32;
        }

        private static boolean isLetter(int sign) {
            return sign >= 'a' && sign <= 'z';
        }

        private static boolean isDigit(int sign) {
            return sign >= '0' && sign <= '9';
        }
    }

    /** The prints that lie behind a minute, in the order in which they were made. */
    private static final class Clay {
        private int count;
        private final int[] cells = new int[MOST_PRINTS];
        private final int[] shapes = new int[MOST_PRINTS];
        private final int[] depths = new int[MOST_PRINTS];
        private final int[] minutes = new int[MOST_PRINTS];
        private final int[] makers = new int[MOST_PRINTS];
        private final int[] users = new int[MOST_PRINTS];
        private final int[] tops = new int[MOST_CELLS];

        private final int[] spots = new int[MOST_PEOPLE];
        private final int[] loads = new int[MOST_PEOPLE];
        private final int[] feet = new int[MOST_PEOPLE];
        private final int[] pressed = new int[MOST_PEOPLE];
        private final int[] stepped = new int[MOST_PEOPLE];
        private final int[] followed = new int[MOST_PEOPLE];

        private void lay(Night night, int until) {
            wash();
            Arrays.fill(feet, 0);
            Arrays.fill(pressed, 0);
            Arrays.fill(stepped, 0);
            Arrays.fill(followed, 0);
            for (int p = 0; p < night.people; p++) {
                put(loads, p, night.loadOf(p));
            }
            for (int minute = 0; minute <= until && minute < MINUTES; minute++) {
                if (get(night.rains, minute) == 1) {
                    wash();
                }
                for (int p = 0; p < night.people; p++) {
                    goOn(night, p, minute);
                }
            }
        }

        private void wash() {
            count = 0;
            Arrays.fill(tops, NONE);
        }

        private void goOn(Night night, int p, int minute) {
            Person one = night.member(p);
            if (one == null || one.manner == ROLLED || !one.walksHimself()) {
                return;
            }
            int i = minute - one.begins;
            if (i < 0 || i > one.steps) {
                return;
            }
            // Once a STEP has left the square, the spot is NONE, and no CELL is beside it.
            int cell = i == 0 ? one.start : night.beside(get(spots, p), one.sideAt(i), one.stride);
            put(spots, p, cell);
            if (cell != NONE) {
                int sole = one.manner == HANDS ? HAND_SOLE : one.sole;
                int depth = one.depthUnder(get(loads, p), i % 2);
                setDown(p, minute, cell, shape(sole, i % 2, one.sideAt(i)), depth);
            }
        }

        private void setDown(int p, int minute, int cell, int shape, int depth) {
            raise(feet, p);
            int top = get(tops, cell);
            if (top == NONE || get(shapes, top) != shape) {
                raise(pressed, p);
                press(p, minute, cell, shape, depth);
                return;
            }
            raise(stepped, p);
            if (get(makers, top) != p) {
                raise(followed, p);
            }
            put(depths, top, Math.max(get(depths, top), depth));
            put(users, top, get(users, top) | 1 << p);
        }

        private void press(int p, int minute, int cell, int shape, int depth) {
            put(cells, count, cell);
            put(shapes, count, shape);
            put(depths, count, depth);
            put(minutes, count, minute);
            put(makers, count, p);
            put(users, count, 1 << p);
            put(tops, cell, count);
            count++;
        }

        private int part(int k, int what) {
            if (k < 0 || k >= count) {
                return NO_SUCH;
            }
            switch (what) {
                case 0: return get(cells, k);
                case 1: return soleOf(get(shapes, k));
                case 2: return footOf(get(shapes, k));
                case 3: return sideOf(get(shapes, k));
                case 4: return get(depths, k);
                case 5: return get(minutes, k);
                case 6: return get(makers, k);
                case 7: return get(users, k);
                case 8: return liesOver(k);
                default: return NO_SUCH;
            }
        }

        private int liesOver(int k) {
            int under = 0;
            for (int i = 0; i < k; i++) {
                if (get(cells, i) == get(cells, k)) {
                    under++;
                }
            }
            return under;
        }

        private int heightOf(int cell) {
            int height = 0;
            for (int i = 0; i < count; i++) {
                if (get(cells, i) == cell) {
                    height++;
                }
            }
            return height;
        }

        private int topOf(int cell) {
            return get(tops, cell);
        }

        private int depthOf(int cell) {
            int depth = 0;
            for (int i = 0; i < count; i++) {
                if (get(cells, i) == cell) {
                    depth += get(depths, i);
                }
            }
            return depth;
        }

        private int usersOf(int cell) {
            int bits = 0;
            for (int i = 0; i < count; i++) {
                if (get(cells, i) == cell) {
                    bits |= get(users, i);
                }
            }
            return bits;
        }

        private int hidden() {
            int under = count;
            for (int cell = 0; cell < tops.length; cell++) {
                if (tops[cell] != NONE) {
                    under--;
                }
            }
            return under;
        }

        private int twins() {
            int couples = 0;
            for (int i = 0; i < count; i++) {
                for (int j = 0; j < i; j++) {
                    if (get(cells, i) == get(cells, j) && get(shapes, i) == get(shapes, j)) {
                        couples++;
                    }
                }
            }
            return couples;
        }

        private int deepest() {
            int best = NONE;
            for (int i = 0; i < count; i++) {
                if (best == NONE || get(depths, i) > get(depths, best)) {
                    best = i;
                }
            }
            return best;
        }

        private int madeBy(int p) {
            int made = 0;
            for (int i = 0; i < count; i++) {
                if (get(makers, i) == p) {
                    made++;
                }
            }
            return made;
        }

        /** The TAX of one, or of all (NONE). */
        private int taxOf(Night night, int law, int p) {
            int sum = 0;
            for (int i = 0; i < count; i++) {
                if (p == NONE || get(makers, i) == p) {
                    sum += dueFor(night, law, i);
                }
            }
            return sum;
        }

        private int dueFor(Night night, int law, int i) {
            if (law == BY_FOOT) {
                return 1;
            }
            Person maker = night.member(get(makers, i));
            if (law == BY_YARD && maker != null) {
                return maker.stride;
            }
            return get(depths, i);
        }

        /** One's FAIR part, in parts of which a print has WHOLE_PRINT. */
        private int shareOf(int p) {
            int share = 0;
            for (int i = 0; i < count; i++) {
                int bits = get(users, i);
                if ((bits >> p & 1) == 1) {
                    share += WHOLE_PRINT / Math.max(1, Integer.bitCount(bits));
                }
            }
            return share;
        }

        /** By CELL the shape of the topmost print, NONE without one. */
        private void showTops(int[] ground) {
            for (int cell = 0; cell < tops.length; cell++) {
                int top = tops[cell];
                put(ground, cell, top == NONE ? NONE : get(shapes, top));
            }
        }
    }

    /** The CELLS by which most of PEOPLE are caught. */
    private static final class Traps {
        private final int[] users = new int[MOST_CELLS];
        private int cells;
        private int size;
        private int all;
        private final int[] tried = new int[MOST_TRAPS];
        private final int[] chosen = new int[MOST_TRAPS];
        private int caught;

        private void set(Clay clay, int cellCount, int k) {
            cells = cellCount;
            size = k;
            all = 0;
            for (int cell = 0; cell < cells; cell++) {
                int bits = clay.usersOf(cell);
                put(users, cell, bits);
                all |= bits;
            }
            caught = NONE;
            choose(0, 0, 0);
        }

        /** The depth is at most the number of traps. */
        private void choose(int depth, int from, int bits) {
            if (depth >= size || depth >= MOST_TRAPS) {
                if (Integer.bitCount(bits) > caught) {
                    caught = Integer.bitCount(bits);
                    copy(tried, chosen);
                }
                return;
            }
            for (int cell = from; cell < cells && caught < Integer.bitCount(all); cell++) {
                put(tried, depth, cell);
                choose(depth + 1, cell + 1, bits | get(users, cell));
            }
        }
    }

    /** One's WAY between two CELLS over a ground: by CELL the shape of its topmost print. */
    private static final class Way {
        private static final int FAR = 1000;

        private int prints;
        private int steps;
        private final int[] sides = new int[MOST_WAY_STEPS];

        private Night night;
        private int[] ground;
        private int sole;
        private int stride;
        private int start;
        /** By STEPS made and CELL: the fewest new prints so far. */
        private final int[] costs = new int[(MOST_WAY_STEPS + 1) * MOST_CELLS];
        /** By foot and CELL: the fewest new prints with which fewer STEPS went on from there. */
        private final int[] seen = new int[2 * MOST_CELLS];

        /** Finds prints (NONE: no way), steps and sides. */
        private void seek(Night n, int[] tops, int person, int from, int to) {
            prints = NONE;
            steps = 0;
            Person one = n.member(person);
            if (one == null) {
                return;
            }
            night = n;
            ground = tops;
            sole = one.sole;
            stride = one.stride;
            start = from;
            if (from == to) {
                prints = 0;
                return;
            }
            int best = fewestPrints(from, to);
            if (best < FAR) {
                prints = best;
                trace(from, to);
            }
        }

        /** Sets steps, too; FAR if there is no way. */
        private int fewestPrints(int from, int to) {
            Arrays.fill(seen, FAR);
            clearLayer(0);
            put(costs, from, 0);
            int best = FAR;
            boolean goesOn = true;
            for (int i = 0; i <= MOST_WAY_STEPS && goesOn; i++) {
                if (costAt(i, to) < best) {
                    best = costAt(i, to);
                    steps = i;
                }
                goesOn = i < MOST_WAY_STEPS && spread(i, best);
            }
            return best;
        }

        private void clearLayer(int i) {
            for (int cell = 0; cell < MOST_CELLS; cell++) {
                put(costs, i * MOST_CELLS + cell, FAR);
            }
        }

        private int costAt(int i, int cell) {
            return cell == NONE ? FAR : get(costs, i * MOST_CELLS + cell);
        }

        /** One STEP further from all CELLS from which it may lead to less than the best; false if from none. */
        private boolean spread(int i, int best) {
            clearLayer(i + 1);
            boolean any = false;
            for (int cell = 0; cell < night.cells(); cell++) {
                int cost = costAt(i, cell);
                int before = i % 2 * MOST_CELLS + cell;
                if (cost < best && cost < get(seen, before)) {
                    any = true;
                    // The first FOOT is not paid for yet, so coming back to the start later may be cheaper.
                    if (i > 0) {
                        put(seen, before, cost);
                    }
                    reachFrom(i, cell, cost);
                }
            }
            return any;
        }

        private void reachFrom(int i, int cell, int cost) {
            for (int side = 0; side < SIDES; side++) {
                int next = night.beside(cell, side, stride);
                if (next != NONE) {
                    int least = Math.min(costAt(i + 1, next), cost + priceOf(i, cell, side, next));
                    put(costs, (i + 1) * MOST_CELLS + next, least);
                }
            }
        }

        /** The new prints of the STEP behind the i-th; the first one pays for the FOOT ahead of it, too. */
        private int priceOf(int i, int cell, int side, int next) {
            int price = get(ground, next) == shape(sole, (i + 1) % 2, side) ? 0 : 1;
            return i == 0 && get(ground, cell) != shape(sole, 0, side) ? price + 1 : price;
        }

        /** Strikes all that lies on no best way, then takes the least side each time. */
        private void trace(int from, int to) {
            int least = costAt(steps, to);
            clearLayer(steps);
            put(costs, steps * MOST_CELLS + to, least);
            for (int i = steps - 1; i > 0; i--) {
                strikeLost(i);
            }
            int cell = from;
            for (int i = 0; i < steps; i++) {
                int side = sideOn(i, cell);
                put(sides, i, side);
                cell = night.beside(cell, side, stride);
            }
        }

        private void strikeLost(int i) {
            for (int cell = 0; cell < night.cells(); cell++) {
                if (costAt(i, cell) < FAR && sideOn(i, cell) == NONE) {
                    put(costs, i * MOST_CELLS + cell, FAR);
                }
            }
        }

        /** The least side that goes on along a best way. */
        private int sideOn(int i, int cell) {
            for (int side = 0; side < SIDES; side++) {
                int next = night.beside(cell, side, stride);
                int cost = costAt(i + 1, next);
                if (cost < FAR && cost == costAt(i, cell) + priceOf(i, cell, side, next)) {
                    return side;
                }
            }
            return NONE;
        }

        /** Makes another ground the one that lies when the way found has been gone. */
        private void tread(int[] after) {
            copy(ground, after);
            int cell = start;
            for (int i = 0; i < steps; i++) {
                int side = get(sides, i);
                if (i == 0) {
                    pressIn(after, cell, shape(sole, 0, side));
                }
                cell = night.beside(cell, side, stride);
                pressIn(after, cell, shape(sole, (i + 1) % 2, side));
            }
        }

        private void pressIn(int[] after, int cell, int shape) {
            if (get(ground, cell) != shape) {
                put(after, cell, shape);
            }
        }
    }

    /** The order of all ERRANDS by which fewest new prints are made. */
    private static final class Tour {
        private int prints;
        private int steps;
        private final int[] best = new int[MOST_ERRANDS];

        private Night night;
        private int done;
        private final int[] order = new int[MOST_ERRANDS];
        private final int[][] grounds = new int[MOST_ERRANDS + 1][MOST_CELLS];
        private final Way leg = new Way();

        private void begin(Night n, int[] ground) {
            night = n;
            done = 0;
            prints = NONE;
            steps = 0;
            copy(ground, groundAt(0));
        }

        /**
         * Finds prints (NONE: no tour), steps and the best order, from depth 0 on; the depth is at most the
         * number of errands. Orders come by rows, so only a better one counts. What can't be gone can't be
         * gone on any ground, so then no order comes to its end.
         */
        private void extend(int depth, int made, int walked) {
            if (prints != NONE && made >= prints) {
                return;
            }
            if (depth >= night.errands || depth >= MOST_ERRANDS) {
                prints = made;
                steps = walked;
                copy(order, best);
                return;
            }
            for (int e = 0; e < night.errands; e++) {
                if ((done >> e & 1) == 0) {
                    int one = get(night.errandOne, e);
                    leg.seek(night, groundAt(depth), one, get(night.errandFrom, e), get(night.errandTo, e));
                    if (leg.prints == NONE) {
                        return;
                    }
                    leg.tread(groundAt(depth + 1));
                    done |= 1 << e;
                    put(order, depth, e);
                    extend(depth + 1, made + leg.prints, walked + leg.steps);
                    done &= ~(1 << e);
                }
            }
        }

        private int[] groundAt(int depth) {
            return depth >= 0 && depth < grounds.length ? grounds[depth] : null;
        }
    }

    /** Which SIGNS of a reading may follow which by a night's FEET, and the rows that they make. */
    private static final class Rows {
        private int signs;
        private final int[] makers = new int[MOST_SIGNS];
        private final int[] followers = new int[MOST_SIGNS];
        private int fewest;
        private int allWays;
        private final int[] firstWay = new int[MOST_SIGNS];

        private int limit;
        private int longest;
        private boolean anyWillDo;
        private int ways;
        private int taken;
        private final int[] next = new int[MOST_SIGNS];
        private final int[] before = new int[MOST_SIGNS];
        private final int[] found = new int[MOST_SIGNS];

        private void compare(Night night, Reading reading) {
            signs = reading.signs;
            fewest = NONE;
            for (int k = 0; k < signs; k++) {
                put(makers, k, makersOf(night, reading, k));
            }
            for (int a = 0; a < signs; a++) {
                int bits = 0;
                for (int b = 0; b < signs; b++) {
                    if (mayFollow(night, reading, a, b)) {
                        bits |= 1 << b;
                    }
                }
                put(followers, a, bits);
            }
        }

        private static int makersOf(Night night, Reading reading, int k) {
            int bits = 0;
            int sole = get(reading.soles, k);
            for (int p = 0; p < night.people; p++) {
                Person one = night.member(p);
                if (one != null && (sole == HAND_SOLE || sole == one.sole) && pressesSo(night, reading, k, p)) {
                    bits |= 1 << p;
                }
            }
            return bits;
        }

        /** With nobody, or with any one other. */
        private static boolean pressesSo(Night night, Reading reading, int k, int p) {
            Person one = night.member(p);
            for (int q = 0; q < night.people && one != null; q++) {
                Person other = night.member(q);
                int burden = other == null || q == p ? 0 : other.weight;
                int depth = one.depthUnder(one.weight + burden + night.wet, get(reading.feet, k));
                if (depth == get(reading.depths, k)) {
                    return true;
                }
            }
            return false;
        }

        private boolean mayFollow(Night night, Reading reading, int a, int b) {
            boolean sameSole = get(reading.soles, a) == get(reading.soles, b);
            if (!sameSole || get(reading.feet, a) == get(reading.feet, b)) {
                return false;
            }
            int both = get(makers, a) & get(makers, b);
            for (int p = 0; p < night.people; p++) {
                Person one = night.member(p);
                if (one != null && (both >> p & 1) == 1) {
                    int cell = night.beside(get(reading.cells, a), get(reading.sides, b), one.stride);
                    if (cell != NONE && cell == get(reading.cells, b)) {
                        return true;
                    }
                }
            }
            return false;
        }

        private int forged() {
            int bits = 0;
            for (int k = 0; k < signs; k++) {
                if (get(makers, k) == 0) {
                    bits |= 1 << k;
                }
            }
            return bits;
        }

        private int couples() {
            int sum = 0;
            for (int k = 0; k < signs; k++) {
                sum += Integer.bitCount(get(followers, k));
            }
            return sum;
        }

        /** Finds fewest, allWays and firstWay, once for what was compared. */
        private void countFewest() {
            if (fewest == NONE) {
                fewest = fewestOf(MOST_SIGNS, false);
                allWays = ways;
                copy(found, firstWay);
            }
        }

        /** How many rows, of at most so many SIGNS each; any way will do, or all are counted. */
        private int fewestOf(int most, boolean any) {
            longest = Math.max(1, most);
            anyWillDo = any;
            ways = 0;
            int least = (signs + longest - 1) / longest;
            for (int count = least; count <= signs && ways == 0; count++) {
                limit = count;
                taken = 0;
                Arrays.fill(next, NONE);
                Arrays.fill(before, NONE);
                search(0, 0);
            }
            return limit;
        }

        /** Gives each SIGN, one a level, the next one in its row, or none: then its row has ended. */
        private void search(int sign, int ended) {
            if (anyWillDo && ways > 0) {
                return;
            }
            if (sign >= signs || sign >= MOST_SIGNS) {
                if (ways == 0) {
                    copy(next, found);
                }
                ways++;
                return;
            }
            if (ended + endsFrom(sign) > limit) {
                return;
            }
            for (int b = 0; b < signs; b++) {
                if (mayJoin(sign, b)) {
                    put(next, sign, b);
                    put(before, b, sign);
                    taken |= 1 << b;
                    search(sign + 1, ended);
                    taken &= ~(1 << b);
                    put(before, b, NONE);
                    put(next, sign, NONE);
                }
            }
            if (ended < limit) {
                search(sign + 1, ended + 1);
            }
        }

        /** From a SIGN on, those that nothing free may follow: rows that must end. */
        private int endsFrom(int sign) {
            int ends = 0;
            for (int k = sign; k < signs; k++) {
                if ((get(followers, k) & ~taken) == 0) {
                    ends++;
                }
            }
            return ends;
        }

        private boolean mayJoin(int a, int b) {
            if ((get(followers, a) & ~taken & 1 << b) == 0) {
                return false;
            }
            int length = 2;
            int last = b;
            while (get(next, last) != NONE && length <= MOST_SIGNS) {
                last = get(next, last);
                length++;
            }
            int first = a;
            while (get(before, first) != NONE && length <= MOST_SIGNS) {
                first = get(before, first);
                length++;
            }
            return last != a && length <= longest;
        }
    }
}
