import java.util.Random;

/** Random runs of calls, each answer compared with the Model's. */
public final class RandomRunsTest {
    private static final int RUNS = Integer.getInteger("runs", 1500);

    private final Random random;
    private final TextMaker maker;
    private final Check check;
    private final RatSorters x = new RatSorters();
    private final Model y = new Model();
    private final int run;
    private int calls;

    private RandomRunsTest(int run, Check check) {
        this.run = run;
        this.check = check;
        random = new Random(run);
        maker = new TextMaker(random);
    }

    public static void main(String[] args) {
        Check check = new Check();
        int first = Integer.getInteger("first", 0);
        for (int run = first; run < first + RUNS && !check.isWrong(); run++) {
            new RandomRunsTest(run, check).go();
        }
        check.end("random runs");
    }

    private void due(String call, long got, long want) {
        calls++;
        check.due("run " + run + ", call " + calls + ": " + call, got, want);
    }

    private void due(String call, boolean got, boolean want) {
        due(call, got ? 1 : 0, want ? 1 : 0);
    }

    private int in(int least, int most) {
        return least + random.nextInt(most - least + 1);
    }

    private boolean chance(int percent) {
        return random.nextInt(100) < percent;
    }

    /** Mostly a number of so many, now and then one outside. */
    private int of(int many) {
        return chance(4) ? new int[] {-1, many, -2, Integer.MAX_VALUE, Integer.MIN_VALUE}[in(0, 4)]
                : many == 0 ? 0 : random.nextInt(many);
    }

    /** Mostly one of these, now and then at or behind an edge. */
    private int between(int least, int most, int usual) {
        if (chance(6)) {
            return new int[] {least - 1, most + 1, least, most, -1, Integer.MAX_VALUE, Integer.MIN_VALUE}[in(0, 6)];
        }
        return in(least, Math.min(most, usual));
    }

    private void go() {
        readText();
        int many = in(50, 300);
        for (int i = 0; i < many && !check.isWrong(); i++) {
            if (chance(1)) {
                readText();
            } else if (chance(45)) {
                act();
            } else {
                ask();
            }
        }
        askAll();
    }

    private void readText() {
        String text = maker.text();
        int[] fives = Check.fives(text);
        for (int i = 0; i < fives.length; i += 5) {
            due("feed", x.feed(fives[i], fives[i + 1], fives[i + 2], fives[i + 3], fives[i + 4]),
                    y.feed(fives[i], fives[i + 1], fives[i + 2], fives[i + 3], fives[i + 4]));
        }
        int over = fives.length * 4 - text.length();
        due("back", x.back(over), y.back(over));
        due("count(11)", x.count(11), y.count(11));
        due("read of " + text, x.read(), y.read());
        due("place of " + text, x.place(), y.place);
        askAll();
    }

    private void act() {
        int g = of(y.world.grains.size());
        int h = of(y.world.holes.size());
        int r = of(y.world.rats.size());
        switch (in(0, 15)) {
            case 0, 1, 2, 3 -> {
                int n = between(0, 600, chance(80) ? 9 : 600);
                due("minutes " + n, x.minutes(n), y.minutes(n));
            }
            case 4 -> {
                int n = between(1, 9999, 50);
                due("pour", x.pour(g, n), y.pour(g, n));
            }
            case 5, 6 -> {
                int other = of(y.world.holes.size());
                due("swap", x.swap(h, other), y.swap(h, other));
            }
            case 7 -> due("teach", x.teach(r, g), y.teach(r, g));
            case 8 -> {
                int n = between(1, 9999, 6);
                due("give", x.give(r, g, n), y.give(r, g, n));
            }
            case 9, 10 -> {
                boolean home = chance(40);
                due("send", x.send(r, home), y.send(r, home));
            }
            case 11 -> {
                int n = between(1, 99, chance(70) ? 8 : 99);
                due("cat", x.cat(n), y.cat(n));
            }
            case 12 -> {
                int m = of(y.world.merchants.size());
                due("sell", x.sell(m), y.sell(m));
            }
            case 13 -> due("undo", x.undo(), y.undo());
            case 14 -> {
                int slot = of(3);
                if (chance(60)) {
                    due("hold", x.hold(slot), y.hold(slot));
                } else {
                    due("restore", x.restore(slot), y.restore(slot));
                }
            }
            default -> tellSomething(h, g);
        }
    }

    private void tellSomething(int h, int g) {
        if (chance(10)) {
            due("forget", x.forget(), y.forget());
            return;
        }
        int n = between(0, 99, 70);
        int many = between(0, 9999, 20);
        if (y.hole(h) && y.grain(g) && n >= 0 && n <= 99 && chance(80)) {
            many = y.later(y.start(), n).holes[chance(80) ? h : random.nextInt(y.world.holes.size())][g];
        }
        due("tell", x.tell(h, g, n, many), y.tell(h, g, n, many));
    }

    private void ask() {
        int g = of(y.world.grains.size());
        int h = chance(20) ? -1 : of(y.world.holes.size());
        int r = of(y.world.rats.size());
        int n = between(0, 600, chance(80) ? 60 : 600);
        int what = of(2);
        switch (in(0, 24)) {
            case 0, 1 -> due("clean", x.clean(), y.clean());
            case 2, 3, 4 -> {
                int of = of(6);
                due("then " + n + " " + of, x.then(n, of), y.then(n, of));
            }
            case 5, 6, 7 -> due("lies", x.lies(n, h, g), y.lies(n, h, g));
            case 8, 9 -> {
                int by = between(1, 300, chance(90) ? 40 : 300);
                due("hire " + by, x.hire(by, what), y.hire(by, what));
            }
            case 10, 11 -> askTaught();
            case 12, 13 -> due("bestSwap", x.bestSwap(what), y.bestSwap(what));
            case 14, 15 -> due("missed", x.missed(n, what), y.missed(n, what));
            case 16, 17 -> {
                int by = between(1, 120, 40);
                due("catAt " + by, x.catAt(by, what), y.catAt(by, what));
            }
            case 18 -> due("starves", x.starves(r), y.starves(r));
            case 19, 20 -> {
                int seeds = between(1, 20, 20);
                due("mean", x.mean(seeds, n), y.mean(seeds, n));
            }
            case 21, 22 -> due("sales", x.sales(what), y.sales(what));
            case 23 -> {
                int k = chance(90) ? in(0, y.told.size()) : of(22);
                int i = chance(50) ? -1 : of(80);
                due("jokes " + k + " " + i, x.jokes(k, i), y.jokes(k, i));
            }
            default -> askAll();
        }
    }

    private void askTaught() {
        int rats = y.world.rats.size();
        int n = between(1, 300, 40);
        int set = 0;
        for (int i = in(1, chance(10) ? 4 : 2); i > 0 && rats > 0; i--) {
            set |= 1 << random.nextInt(rats);
        }
        if (chance(10)) {
            set = new int[] {0, -1, 1 << rats, 255, 31, 1 << 31}[in(0, 5)];
        }
        if (chance(50)) {
            due("taught " + set + " " + n, x.taught(set, n), y.taught(set, n));
        }
        int i = of(Integer.bitCount(set));
        due("taughtAt " + set + " " + n + " " + i, x.taughtAt(set, n, i), y.taughtAt(set, n, i));
    }

    /** All that can be seen of how it is now. */
    private void askAll() {
        for (int what = -1; what <= 16; what++) {
            due("count " + what, x.count(what), y.count(what));
        }
        for (int g = -1; g <= y.world.grains.size(); g++) {
            due("heap " + g, x.heap(g), y.heap(g));
            for (int h = -1; h <= y.world.holes.size(); h++) {
                due("hole " + h + " " + g, x.hole(h, g), y.hole(h, g));
            }
        }
        for (int h = -1; h <= y.world.holes.size(); h++) {
            due("worth " + h, x.worth(h), y.worth(h));
            due("pure " + h, x.pure(h, false), y.pure(h, false));
            due("pure below " + h, x.pure(h, true), y.pure(h, true));
        }
        for (int r = -1; r <= y.world.rats.size(); r++) {
            for (int what = -1; what <= 9; what++) {
                due("rat " + r + " " + what, x.rat(r, what), y.rat(r, what));
            }
        }
        due("isClean", x.isClean(), y.isClean());
    }
}
