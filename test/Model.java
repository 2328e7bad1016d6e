import java.util.ArrayList;
import java.util.Arrays;
import java.util.List;
import java.util.TreeSet;
import java.util.function.Consumer;

/** A second, slow reading of the document's terms, with nothing of ClayPrints in it. */
final class Model {
    static final int NONE = -1;

    static final class One {
        int sole;
        int stride;
        int weight;
        int limp;
        int manner;
        int carrier = NONE;
        int cell = NONE;
        int minute = NONE;
        int[] sides = {};

        One copy() {
            One c = new One();
            c.sole = sole;
            c.stride = stride;
            c.weight = weight;
            c.limp = limp;
            c.manner = manner;
            c.carrier = carrier;
            c.cell = cell;
            c.minute = minute;
            c.sides = sides.clone();
            return c;
        }
    }

    static final class Print {
        int cell;
        int sole;
        int foot;
        int side;
        int depth;
        int minute;
        int maker;
        TreeSet<Integer> users = new TreeSet<>();

        boolean fits(int aSole, int aFoot, int aSide) {
            return sole == aSole && foot == aFoot && side == aSide;
        }

        int userBits() {
            int bits = 0;
            for (int u : users) {
                bits += 1 << u;
            }
            return bits;
        }
    }

    /** What lies behind a minute, and what each one has done till then. */
    static final class Ground {
        List<Print> prints = new ArrayList<>();
        int[][] gait = new int[6][4];

        Print top(int cell) {
            Print top = null;
            for (Print print : prints) {
                if (print.cell == cell) {
                    top = print;
                }
            }
            return top;
        }

        int madeBy(int p) {
            return (int) prints.stream().filter(print -> print.maker == p).count();
        }

        int userBits(int cell) {
            return prints.stream().filter(print -> print.cell == cell).mapToInt(Print::userBits).reduce(0, (a, b) -> a | b);
        }
    }

    /** A way: new prints, and its sides as digits. */
    record Route(int prints, String sides) {
        boolean betterThan(Route other) {
            if (other == null || prints != other.prints) {
                return other == null || prints < other.prints;
            }
            int length = sides.length() - other.sides.length();
            return length != 0 ? length < 0 : sides.compareTo(other.sides) < 0;
        }
    }

    int width = 6;
    int height = 6;
    int wet = 2;
    List<One> people = new ArrayList<>();
    List<int[]> errands = new ArrayList<>();
    TreeSet<Integer> rains = new TreeSet<>();

    Model but(Consumer<Model> change) {
        Model c = new Model();
        c.width = width;
        c.height = height;
        c.wet = wet;
        people.forEach(one -> c.people.add(one.copy()));
        c.errands.addAll(errands);
        c.rains.addAll(rains);
        change.accept(c);
        return c;
    }

    int go(int cell, int side, int far) {
        int row = cell / width + (side == 2 ? far : side == 0 ? -far : 0);
        int column = cell % width + (side == 1 ? far : side == 3 ? -far : 0);
        return row < 0 || column < 0 || row >= height || column >= width ? NONE : row * width + column;
    }

    /** The cells of one's walk, minute by minute, from its own minute on. */
    List<Integer> path(One one) {
        List<Integer> path = new ArrayList<>();
        path.add(one.cell);
        for (int side : one.sides) {
            int next = go(path.get(path.size() - 1), side, one.stride);
            if (next == NONE) {
                break;
            }
            path.add(next);
        }
        return path;
    }

    int where(int p, int minute) {
        One one = people.get(p);
        One walker = one;
        if (one.carrier != NONE) {
            walker = people.get(one.carrier);
            if (walker.carrier != NONE) {
                return one.cell;
            }
        }
        if (walker.cell == NONE || minute < walker.minute) {
            return NONE;
        }
        List<Integer> path = path(walker);
        return path.get(Math.min(minute - walker.minute, path.size() - 1));
    }

    Ground ground(int until) {
        Ground ground = new Ground();
        for (int minute = 0; minute <= until; minute++) {
            if (rains.contains(minute)) {
                ground.prints.clear();
            }
            for (int p = 0; p < people.size(); p++) {
                One one = people.get(p);
                if (one.carrier != NONE || one.cell == NONE || one.manner == 2 || minute < one.minute) {
                    continue;
                }
                List<Integer> path = path(one);
                int i = minute - one.minute;
                if (i < path.size()) {
                    setDown(ground, p, minute, path.get(i), i % 2, one.sides[i == 0 ? 0 : i - 1]);
                }
            }
        }
        return ground;
    }

    Ground atDawn() {
        return ground(99);
    }

    private void setDown(Ground ground, int p, int minute, int cell, int foot, int side) {
        One one = people.get(p);
        int load = wet + one.weight;
        for (One other : people) {
            if (other.carrier == p) {
                load += other.weight;
            }
        }
        int depth = depth(one, load, foot);
        int sole = one.manner == 1 ? 6 : one.sole;
        ground.gait[p][0]++;
        Print top = ground.top(cell);
        if (top != null && top.fits(sole, foot, side)) {
            ground.gait[p][2]++;
            ground.gait[p][3] += top.maker == p ? 0 : 1;
            top.depth = Math.max(top.depth, depth);
            top.users.add(p);
            return;
        }
        ground.gait[p][1]++;
        Print print = new Print();
        print.cell = cell;
        print.sole = sole;
        print.foot = foot;
        print.side = side;
        print.depth = depth;
        print.minute = minute;
        print.maker = p;
        print.users.add(p);
        ground.prints.add(print);
    }

    static int depth(One one, int load, int foot) {
        boolean limps = one.limp == 1 && foot == 0 || one.limp == 2 && foot == 1;
        return limps ? Math.max(1, load / 2) : load;
    }

    int tax(Ground ground, int law, int p) {
        int sum = 0;
        for (Print print : ground.prints) {
            if (p == NONE || print.maker == p) {
                sum += law == 0 ? 1 : law == 1 ? people.get(print.maker).stride : print.depth;
            }
        }
        return sum;
    }

    /** Over and under, in least terms. */
    long[] fair(Ground ground, int p) {
        long over = 0;
        long under = 1;
        for (Print print : ground.prints) {
            if (print.users.contains(p)) {
                over = over * print.users.size() + under;
                under *= print.users.size();
                for (long d = 2; d <= under; d++) {
                    while (over % d == 0 && under % d == 0) {
                        over /= d;
                        under /= d;
                    }
                }
            }
        }
        return new long[] {over, under};
    }

    int alone(int p) {
        return but(m -> {
            for (int q = 0; q < people.size(); q++) {
                if (q != p) {
                    m.people.get(q).cell = NONE;
                }
            }
        }).atDawn().prints.size();
    }

    int leaves() {
        int bits = 0;
        Ground ground = atDawn();
        for (int p = 0; p < people.size(); p++) {
            long[] fair = fair(ground, p);
            bits |= alone(p) * fair[1] < fair[0] ? 1 << p : 0;
        }
        return bits;
    }

    /** How many are caught, then the cells. */
    int[] traps(int k) {
        Ground ground = atDawn();
        int[] best = null;
        int cells = width * height;
        for (int a = 0; a < cells; a++) {
            for (int b = a + 1; b < (k > 1 ? cells : a + 2); b++) {
                for (int c = b + 1; c < (k > 2 ? cells : b + 2); c++) {
                    int bits = ground.userBits(a) | (k > 1 ? ground.userBits(b) : 0) | (k > 2 ? ground.userBits(c) : 0);
                    if (best == null || Integer.bitCount(bits) > best[0]) {
                        best = new int[] {Integer.bitCount(bits), a, b, c};
                    }
                }
            }
        }
        return best;
    }

    /** Null if there is none; by all numbers of steps, with no short cut. */
    Route way(Ground ground, int p, int from, int to) {
        if (from == to) {
            return new Route(0, "");
        }
        Route best = null;
        Route[] layer = new Route[width * height];
        layer[from] = new Route(0, "");
        for (int i = 1; i <= 40; i++) {
            Route[] next = new Route[width * height];
            for (int cell = 0; cell < layer.length; cell++) {
                for (int side = 0; side < 4 && layer[cell] != null; side++) {
                    int there = go(cell, side, people.get(p).stride);
                    if (there != NONE) {
                        int price = price(ground, p, there, i % 2, side) + (i == 1 ? price(ground, p, cell, 0, side) : 0);
                        Route route = new Route(layer[cell].prints + price, layer[cell].sides + side);
                        if (route.betterThan(next[there])) {
                            next[there] = route;
                        }
                    }
                }
            }
            layer = next;
            if (layer[to] != null && layer[to].betterThan(best)) {
                best = layer[to];
            }
        }
        return best;
    }

    private int price(Ground ground, int p, int cell, int foot, int side) {
        Print top = ground.top(cell);
        return top != null && top.fits(people.get(p).sole, foot, side) ? 0 : 1;
    }

    /** The ground with a way's prints on it. */
    private Ground gone(Ground ground, int p, int from, Route route) {
        Ground after = new Ground();
        after.prints.addAll(ground.prints);
        int cell = from;
        for (int i = 0; i <= route.sides.length() && !route.sides.isEmpty(); i++) {
            int side = route.sides.charAt(Math.max(0, i - 1)) - '0';
            cell = i == 0 ? from : go(cell, side, people.get(p).stride);
            if (price(ground, p, cell, i % 2, side) == 1) {
                Print print = new Print();
                print.cell = cell;
                print.sole = people.get(p).sole;
                print.foot = i % 2;
                print.side = side;
                after.prints.add(print);
            }
        }
        return after;
    }

    /** New prints, steps, the order; null if there is none. */
    int[] tour() {
        return tour(atDawn(), new ArrayList<>(), 0, 0);
    }

    private int[] tour(Ground ground, List<Integer> done, int prints, int steps) {
        if (done.size() == errands.size()) {
            int[] tour = new int[2 + done.size()];
            tour[0] = prints;
            tour[1] = steps;
            for (int i = 0; i < done.size(); i++) {
                tour[2 + i] = done.get(i);
            }
            return tour;
        }
        int[] best = null;
        for (int e = 0; e < errands.size(); e++) {
            if (!done.contains(e)) {
                int[] errand = errands.get(e);
                Route route = way(ground, errand[0], errand[1], errand[2]);
                if (route == null) {
                    return null;
                }
                List<Integer> longer = new ArrayList<>(done);
                longer.add(e);
                int[] tour = tour(gone(ground, errand[0], errand[1], route), longer, prints + route.prints,
                    steps + route.sides.length());
                if (tour == null) {
                    return null;
                }
                if (best == null || tour[0] < best[0]) {
                    best = tour;
                }
            }
        }
        return best;
    }

    /** A sign: cell, sole, foot, side, depth. */
    int makers(int[] sign) {
        int bits = 0;
        for (int p = 0; p < people.size(); p++) {
            One one = people.get(p);
            TreeSet<Integer> depths = new TreeSet<>(List.of(depth(one, one.weight + wet, sign[2])));
            for (int q = 0; q < people.size(); q++) {
                if (q != p) {
                    depths.add(depth(one, one.weight + people.get(q).weight + wet, sign[2]));
                }
            }
            if ((sign[1] == 6 || sign[1] == one.sole) && depths.contains(sign[4])) {
                bits |= 1 << p;
            }
        }
        return bits;
    }

    boolean follows(int[] a, int[] b) {
        if (a[1] != b[1] || a[2] == b[2] || a[0] >= width * height || b[0] >= width * height) {
            return false;
        }
        for (int p = 0; p < people.size(); p++) {
            if ((makers(a) & makers(b) & 1 << p) != 0 && go(a[0], b[3], people.get(p).stride) == b[0]) {
                return true;
            }
        }
        return false;
    }

    /** Fewest rows, ways, the first way's next ones; of rows of so many signs at most. */
    int[] rows(List<int[]> signs, int most) {
        int[] best = new int[2 + signs.size()];
        best[0] = signs.size() + 1;
        tryRows(signs, new int[signs.size()], 0, most, best);
        return best;
    }

    private void tryRows(List<int[]> signs, int[] next, int k, int most, int[] best) {
        int n = signs.size();
        if (k == n) {
            int rows = countRows(next, most);
            if (rows != NONE && rows < best[0]) {
                best[0] = rows;
                best[1] = 0;
                System.arraycopy(next, 0, best, 2, n);
            }
            best[1] += rows == best[0] ? 1 : 0;
            return;
        }
        for (int b = 0; b <= n; b++) {
            next[k] = b == n ? NONE : b;
            boolean free = b == n || follows(signs.get(k), signs.get(b));
            for (int j = 0; j < k && b < n; j++) {
                free &= next[j] != b;
            }
            if (free) {
                tryRows(signs, next, k + 1, most, best);
            }
        }
    }

    /** NONE if there is a ring or a row that is too long. */
    private static int countRows(int[] next, int most) {
        boolean[] follows = new boolean[next.length];
        Arrays.stream(next).filter(b -> b != NONE).forEach(b -> follows[b] = true);
        int rows = 0;
        int inRows = 0;
        for (int k = 0; k < next.length; k++) {
            if (!follows[k]) {
                int length = 0;
                for (int j = k; j != NONE; j = next[j]) {
                    length++;
                }
                rows++;
                inRows += length;
                if (length > most) {
                    return NONE;
                }
            }
        }
        return inRows == next.length ? rows : NONE;
    }

    /** Behind the drawn rains; their number is told by the array. */
    Model drawn(int seed, int k, int[] number) {
        return but(m -> {
            int x = seed;
            for (int minute = 0; minute < 100; minute++) {
                x = x * 1103515245 + 12345;
                if ((x >>> 16) % 100 < k) {
                    m.rains.add(minute);
                    number[0]++;
                }
            }
        });
    }

    String text() {
        StringBuilder text = new StringBuilder("size " + width + " " + height + ";wet " + wet + ";");
        for (One one : people) {
            text.append("foot " + one.sole + " " + one.stride + " " + one.weight + " " + one.limp + ";");
        }
        for (int p = 0; p < people.size(); p++) {
            One one = people.get(p);
            if (one.cell != NONE) {
                text.append("walk " + p + " " + one.cell + " " + one.minute);
                Arrays.stream(one.sides).forEach(side -> text.append(" " + side));
                text.append(";");
            }
            if (one.manner != 0) {
                text.append((one.manner == 1 ? "hands " : "rolled ") + p + ";");
            }
            if (one.carrier != NONE) {
                text.append("carry " + one.carrier + " " + p + ";");
            }
        }
        errands.forEach(e -> text.append("errand " + e[0] + " " + e[1] + " " + e[2] + ";"));
        rains.forEach(minute -> text.append("rain " + minute + ";"));
        return text.toString();
    }
}
