import java.util.ArrayList;
import java.util.List;

/** Promises 6 to 29 on many nights and readings, against a second reading of the document's terms. */
public final class ModelTest {
    public static void main(String[] args) {
        int runs = args.length > 0 ? Integer.parseInt(args[0]) : 400;
        int first = args.length > 1 ? Integer.parseInt(args[1]) : 1;
        for (int seed = first; seed < first + runs; seed++) {
            new ModelTest(new Dice(seed), seed).run();
        }
        Check.close();
    }

    private final Dice dice;
    private final String run;
    private final Model model = new Model();
    private final List<int[]> signs = new ArrayList<>();
    private ClayPrints told;
    private int calls;

    private ModelTest(Dice dice, int seed) {
        this.dice = dice;
        run = "run " + seed + ": ";
    }

    private void due(String call, long want, long got) {
        Check.due(run + call, want, got);
    }

    private void run() {
        drawNight();
        drawSigns();
        if (model.text().length() > 600) {
            return;
        }
        tell();
        people();
        prints();
        taxes();
        guesses();
        traps();
        ways();
        tour();
        readings();
    }

    private void tell() {
        told = new ClayPrints();
        calls = 0;
        Check.put(told, model.text());
        due("text " + model.text(), 0, told.text(0, -1));
        Check.put(told, signText());
        due("text " + signText(), 0, told.text(1, -1));
    }

    /** To be asked once: behind its 512th call nothing is promised about an object. */
    private ClayPrints x() {
        calls++;
        if (calls > 400) {
            tell();
        }
        return told;
    }

    private void drawNight() {
        int most = dice.once(3) ? 8 : 4;
        model.width = dice.from(2, most);
        model.height = dice.from(2, most);
        model.wet = dice.below(dice.once(2) ? 10 : 3);
        int soles = dice.from(1, 3);
        int count = dice.once(20) ? 0 : dice.from(1, 6);
        int lastMinute = dice.once(3) ? 60 : 8;
        boolean plain = dice.once(2);
        for (int p = 0; p < count; p++) {
            Model.One one = new Model.One();
            one.sole = dice.below(soles);
            one.stride = dice.once(3) ? dice.from(1, 3) : 1;
            one.weight = dice.from(1, 9);
            one.limp = dice.once(2) ? dice.below(3) : 0;
            one.manner = plain || dice.once(2) ? 0 : dice.below(3);
            if (!dice.once(8)) {
                drawWalk(one, lastMinute);
            }
            if (!plain && count > 1 && dice.once(4)) {
                one.carrier = (p + dice.from(1, count - 1)) % count;
            }
            model.people.add(one);
        }
        for (int r = dice.once(2) ? dice.below(4) : 0; r > 0; r--) {
            model.rains.add(dice.below(dice.once(2) ? 12 : 100));
        }
        for (int e = count == 0 ? 0 : dice.below(dice.once(4) ? 6 : 4); e > 0; e--) {
            model.errands.add(new int[] {dice.below(count), drawCell(), drawCell()});
        }
    }

    private int drawCell() {
        return dice.below(model.width * model.height);
    }

    private void drawWalk(Model.One one, int lastMinute) {
        one.cell = dice.once(2) ? 0 : drawCell();
        one.minute = dice.below(lastMinute + 1);
        one.sides = new int[dice.from(1, dice.once(5) ? 24 : 7)];
        int side = dice.below(4);
        for (int i = 0; i < one.sides.length; i++) {
            side = dice.once(2) ? dice.below(4) : side;
            one.sides[i] = side;
        }
    }

    private void drawSigns() {
        List<Model.Print> prints = model.atDawn().prints;
        int count = dice.below(dice.once(3) ? 11 : 7);
        boolean twisted = dice.once(3);
        for (int k = 0; k < count; k++) {
            int[] sign = {dice.below(dice.once(4) ? 64 : 4), dice.below(7), dice.below(2), dice.below(4), dice.from(1, 20)};
            if (!prints.isEmpty() && !dice.once(6)) {
                Model.Print print = prints.get(dice.below(prints.size()));
                sign = new int[] {print.cell, print.sole, print.foot, print.side, print.depth};
            } else if (!model.people.isEmpty() && !dice.once(4)) {
                Model.One one = model.people.get(dice.below(model.people.size()));
                sign[1] = one.sole;
                sign[4] = Model.depth(one, one.weight + model.wet, sign[2]);
            }
            if (twisted && dice.once(3)) {
                sign[3] = dice.below(4);
            }
            signs.add(sign);
        }
    }

    private String signText() {
        StringBuilder text = new StringBuilder();
        for (int[] s : signs) {
            text.append("sign " + s[0] + " " + s[1] + "\n" + s[2] + " " + s[3] + " " + s[4] + " ;");
        }
        return text.toString();
    }

    private void people() {
        due("width", model.width, x().night(0, 0));
        due("people", model.people.size(), x().night(0, 3));
        due("rains", model.rains.size(), x().night(0, 5));
        int cell = drawCell();
        int r = dice.below(15);
        for (int minute = 0; minute < 100; minute += dice.from(1, 9)) {
            int near = 0;
            for (int p = 0; p < model.people.size(); p++) {
                int spot = model.where(p, minute);
                due("where " + p + " " + minute, spot, x().where(0, p, minute));
                int rows = Math.abs(spot / model.width - cell / model.width);
                int columns = Math.abs(spot % model.width - cell % model.width);
                near |= spot != -1 && rows + columns <= r ? 1 << p : 0;
            }
            due("near " + cell + " " + r + " " + minute, near, x().near(0, cell, r, minute));
        }
        for (int p = 0; p < model.people.size(); p++) {
            Model.One one = model.people.get(p);
            boolean walks = one.carrier == -1 && one.cell != -1;
            due("made " + p, walks ? model.path(one).size() - 1 : 0, x().person(0, p, 9));
            due("carrier " + p, one.carrier, x().person(0, p, 5));
            due("told " + p, one.sides.length, x().person(0, p, 8));
        }
    }

    private void prints() {
        int minute = dice.once(2) ? 99 : dice.below(30);
        Model.Ground ground = model.ground(minute);
        due("prints", ground.prints.size(), x().print(0, minute, -1, 0));
        for (int k = 0; k < ground.prints.size(); k++) {
            Model.Print print = ground.prints.get(k);
            int over = 0;
            for (int j = 0; j < k; j++) {
                over += ground.prints.get(j).cell == print.cell ? 1 : 0;
            }
            int[] want = {print.cell, print.sole, print.foot, print.side, print.depth, print.minute, print.maker,
                print.userBits(), over, -2};
            for (int what = 0; what < want.length; what++) {
                due("print " + minute + " " + k + " " + what, want[what], x().print(0, minute, k, what));
            }
        }
        due("no print", -2, x().print(0, minute, ground.prints.size(), 0));
        for (int cell = 0; cell < model.width * model.height; cell++) {
            cell(ground, minute, cell);
        }
        dawn();
    }

    private void cell(Model.Ground ground, int minute, int cell) {
        int height = 0;
        int depth = 0;
        for (Model.Print print : ground.prints) {
            height += print.cell == cell ? 1 : 0;
            depth += print.cell == cell ? print.depth : 0;
        }
        String call = "cell " + minute + " " + cell + " ";
        due(call + 0, height, x().cell(0, minute, cell, 0));
        due(call + 1, ground.prints.indexOf(ground.top(cell)), x().cell(0, minute, cell, 1));
        due(call + 2, depth, x().cell(0, minute, cell, 2));
        due(call + 3, ground.userBits(cell), x().cell(0, minute, cell, 3));
    }

    private void dawn() {
        Model.Ground ground = model.atDawn();
        int hidden = 0;
        int twins = 0;
        int deepest = -1;
        for (int k = 0; k < ground.prints.size(); k++) {
            Model.Print print = ground.prints.get(k);
            hidden += ground.top(print.cell) != print ? 1 : 0;
            deepest = deepest == -1 || print.depth > ground.prints.get(deepest).depth ? k : deepest;
            for (Model.Print other : ground.prints.subList(0, k)) {
                twins += other.cell == print.cell && other.fits(print.sole, print.foot, print.side) ? 1 : 0;
            }
        }
        Check.dueRow(run + "dawn", 0, what -> x().dawn(0, what), hidden, twins, deepest, -2);
        for (int p = 0; p < model.people.size(); p++) {
            int one = p;
            due("route " + p, ground.madeBy(p), x().dawn(0, 10 + p));
            int[] gait = ground.gait[p];
            Check.dueRow(run + "gait " + p, 0, what -> x().gait(0, one, what), gait[0], gait[1], gait[2], gait[3], -2);
        }
        int from = dice.below(100);
        int to = Math.min(99, from + dice.below(20));
        int cell = drawCell();
        int thieves = 0;
        for (int p = 0; p < model.people.size(); p++) {
            for (int minute = from; minute <= to; minute++) {
                thieves |= model.where(p, minute) == cell ? 1 << p : 0;
            }
        }
        due("thieves", thieves & ~ground.userBits(cell), x().thieves(0, cell, from, to));
    }

    private void taxes() {
        Model.Ground ground = model.atDawn();
        int dearest = 0;
        for (int law = 0; law < 3; law++) {
            due("tax all " + law, model.tax(ground, law, -1), x().tax(0, law, -1));
            dearest = model.tax(ground, law, -1) > model.tax(ground, dearest, -1) ? law : dearest;
            int payer = -1;
            for (int p = 0; p < model.people.size(); p++) {
                int tax = model.tax(ground, law, p);
                due("tax " + law + " " + p, tax, x().tax(0, law, p));
                payer = payer == -1 || tax > model.tax(ground, law, payer) ? p : payer;
            }
            due("pays " + law, payer, x().pays(0, law));
        }
        due("yield", dearest, x().pays(0, -1));
        for (int p = 0; p < model.people.size(); p++) {
            long[] fair = model.fair(ground, p);
            due("fair over " + p, fair[0], x().fair(0, p, false));
            due("fair under " + p, fair[1], x().fair(0, p, true));
            due("alone " + p, model.alone(p), x().alone(0, p));
        }
        due("leaves", model.leaves(), x().alone(0, -1));
    }

    private void guesses() {
        int count = model.people.size();
        int seed = dice.once(2) ? dice.below(10) : dice.below(Integer.MAX_VALUE) * 3;
        int k = dice.once(3) ? dice.below(101) : dice.below(8);
        int[] number = new int[1];
        Model rainy = model.drawn(seed, k, number);
        Model.Ground ground = rainy.atDawn();
        Check.dueRow(run + "drawn", 0, what -> x().drawn(0, seed, k, what), ground.prints.size(),
            rainy.tax(ground, 2, -1), number[0], -1);
        for (int p = 0; p < count; p++) {
            int one = p;
            due("drawn by " + p, ground.madeBy(p), x().drawn(0, seed, k, 10 + p));
            int other = dice.below(count);
            Model.Ground borne = model.but(m -> m.people.get(one).carrier = other).atDawn();
            due("carried " + p + " " + other, p == other ? -1 : borne.madeBy(p), x().carried(0, p, other, false));
            due("carrier " + p + " " + other, p == other ? -1 : borne.madeBy(other), x().carried(0, p, other, true));
            int[] shoes = new int[6];
            for (int sole = 0; sole < 6; sole++) {
                int s = sole;
                shoes[sole] = model.but(m -> m.people.get(one).sole = s).atDawn().prints.size();
            }
            due("shoes " + p, least(shoes), x().better(0, p, false));
            int[] hours = new int[61];
            for (int minute = 0; minute <= 60; minute++) {
                int h = minute;
                hours[minute] = model.but(m -> m.people.get(one).minute = h).atDawn().madeBy(p);
            }
            due("hour " + p, model.people.get(p).cell == -1 ? -1 : least(hours), x().better(0, p, true));
        }
    }

    private static int least(int[] numbers) {
        int best = 0;
        for (int i = 1; i < numbers.length; i++) {
            best = numbers[i] < numbers[best] ? i : best;
        }
        return best;
    }

    private void traps() {
        int k = model.width * model.height > 16 ? dice.from(1, 2) : dice.from(1, 3);
        int[] want = model.traps(k);
        for (int what = 0; what <= k; what++) {
            due("traps " + k + " " + what, want[what], x().traps(0, k, what));
        }
    }

    private void ways() {
        Model.Ground ground = model.atDawn();
        for (int i = 0; i < 4 && !model.people.isEmpty(); i++) {
            int p = dice.below(model.people.size());
            int from = drawCell();
            int to = drawCell();
            Model.Route route = model.way(ground, p, from, to);
            String call = "way " + p + " " + from + " " + to + " ";
            due(call + 0, route == null ? -1 : route.prints(), x().way(0, p, from, to, 0));
            due(call + 1, route == null ? -1 : route.sides().length(), x().way(0, p, from, to, 1));
            int steps = route == null ? 0 : route.sides().length();
            for (int s = 0; s <= steps; s++) {
                due(call + (10 + s), s == steps ? -1 : route.sides().charAt(s) - '0', x().way(0, p, from, to, 10 + s));
            }
        }
    }

    private void tour() {
        int[] tour = model.tour();
        due("tour 0", tour == null ? -1 : tour[0], x().tour(0, 0));
        due("tour 1", tour == null ? -1 : tour[1], x().tour(0, 1));
        for (int i = 0; i <= model.errands.size(); i++) {
            due("tour " + (10 + i), tour == null || i == model.errands.size() ? -1 : tour[2 + i], x().tour(0, 10 + i));
        }
    }

    private void readings() {
        int forged = 0;
        int couples = 0;
        for (int a = 0; a < signs.size(); a++) {
            int makers = model.makers(signs.get(a));
            due("makers " + a, makers, x().makers(0, 0, a));
            forged |= makers == 0 ? 1 << a : 0;
            int followers = 0;
            for (int b = 0; b < signs.size(); b++) {
                followers |= model.follows(signs.get(a), signs.get(b)) ? 1 << b : 0;
            }
            due("follows " + a, followers, x().follows(0, 0, a));
            couples += Integer.bitCount(followers);
        }
        due("forged", forged, x().makers(0, 0, -1));
        due("couples", couples, x().follows(0, 0, -1));
        int[] rows = model.rows(signs, 10);
        due("walks", rows[0], x().walks(0, 0, 0));
        due("ways", rows[1], x().walks(0, 0, 1));
        for (int a = 0; a < signs.size(); a++) {
            due("next " + a, rows[2 + a], x().walks(0, 0, 10 + a));
        }
        for (int k = 1; k <= 4; k++) {
            due("row " + k, model.rows(signs, k)[0], x().row(0, 0, k));
        }
    }
}
