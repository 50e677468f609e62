import java.util.ArrayList;
import java.util.List;
import java.util.function.Supplier;
import java.util.function.ToIntFunction;

/** The sentences on what would be, and promises 21 to 32; much of it is compared with what comes if it is done. */
final class EdgesOfPlans {
    private static final String TERMS = "Terms";
    private static final int LEAST = Integer.MIN_VALUE;
    private static final int LARGEST = Integer.MAX_VALUE;
    private static final String BUSY = "seed 41; grain a 90 3; grain b 60 5; grain c 30 9; hole h 1 a; hole i 3 b; hole j 6 c;"
            + " rat p a h 0 7; rat q b i 1 4; rat r c j 2 1; rat t a i 3 5; load = 4 + fat; eats = hunger / 6; errs = 15;"
            + " odd 9; lamp 400; wants 20 a 10; wants 30 b 8 c 2; wants 45 a 15 c 9;";
    private static final int[] BUSY_FEES = {7, 4, 1, 5};
    private static final int BUSY_RATS = 4;
    private static final int BUSY_HOLES = 3;
    private static final int BUSY_GRAINS = 3;

    private final Sentences s;

    private EdgesOfPlans(Sentences s) {
        this.s = s;
    }

    static void all(Sentences s) {
        EdgesOfPlans t = new EdgesOfPlans(s);
        t.nothingHappens();
        t.cleanBy();
        t.behindMinutes();
        t.hired();
        t.hiredAlike();
        t.taughtBest();
        t.swappedBest();
        t.missedMost();
        t.catCostsLeast();
        t.starvesFirst();
        t.meanOfSeeds();
        t.salesBest();
        t.clean();
        t.then();
        t.lies();
        t.hire();
        t.taught();
        t.taughtAt();
        t.bestSwap();
        t.missed();
        t.catAt();
        t.starves();
        t.mean();
        t.sales();
    }

    /** The busy house behind so many minutes, with one rat home and a cat there from 10 on. */
    private static RatSorters busy(int minute) {
        RatSorters x = Check.of(BUSY);
        x.minutes(minute);
        if (minute >= 10) {
            x.send(1, true);
            x.cat(3);
        }
        return x;
    }

    private static int allWorth(RatSorters x) {
        int all = 0;
        for (int hole = 0; hole < x.count(1); hole++) {
            all += x.worth(hole);
        }
        return all;
    }

    private void nothingHappens() {
        s.says(TERMS, "What would be (nothing happens).");
        List<ToIntFunction<RatSorters>> calls = new ArrayList<>();
        calls.add(RatSorters::clean);
        for (int i = 0; i < 2; i++) {
            int what = i;
            calls.add(y -> y.then(600, what));
            calls.add(y -> y.lies(600, what - 1, 0));
            calls.add(y -> y.hire(300, what));
            calls.add(y -> y.taught(15, 30 + what));
            calls.add(y -> y.taughtAt(5, 30, what));
            calls.add(y -> y.bestSwap(what));
            calls.add(y -> y.missed(600, what));
            calls.add(y -> y.catAt(120, what));
            calls.add(y -> y.starves(what));
            calls.add(y -> y.mean(20, 300 * what));
            calls.add(y -> y.sales(what));
            calls.add(y -> y.jokes(0, what));
        }
        for (int minute : new int[] {0, 7, 40}) {
            RatSorters x = busy(minute);
            for (int i = 0; i < calls.size(); i++) {
                s.still("call " + i + " at " + minute, x, calls.get(i).applyAsInt(busy(minute)), calls.get(i));
            }
            RatSorters y = busy(minute);
            for (int n = 0; n < 50; n++) {
                x.minutes(1);
                y.minutes(1);
                s.due("it goes on as if nothing had been asked", Sentences.seen(x).equals(Sentences.seen(y)), true);
            }
        }
    }

    private void cleanBy() {
        s.says(TERMS, "CLEAN BY: behind how many MINUTES (0 .. 600) it is CLEAN for the first time.");
        // Four a way of 3 minutes: 200 ways end behind 199 * 3 + 2 = 599 minutes.
        RatSorters x = Check.of("grain g 800 1; hole h 1 g; rat r g h 0 0; load = 4;");
        s.due("599", x.clean(), 599);
        x.cat(1);
        s.due("600", x.clean(), 600);
        x.cat(1);
        s.due("601 is too late", x.clean(), -2);
        x.minutes(2);
        s.due("599 from then on", x.clean(), 599);
        s.due("0", Check.of("grain g 0 1; hole h 1 g; rat r g h 0 0;").clean(), 0);
        s.due("1", Check.of("grain g 1 1; hole h 1 g; rat r g h 0 0; lamp 0; odd 1;").clean(), 1);
        for (int minute : new int[] {0, 7, 40}) {
            int by = busy(minute).clean();
            RatSorters done = busy(minute);
            done.minutes(by - 1);
            s.due("ahead of it", done.isClean(), false);
            done.minutes(1);
            s.due("then", done.isClean(), true);
        }
    }

    private void behindMinutes() {
        s.says(TERMS, "WORTH, EATEN, what is in HEAP and HOLES behind n MINUTES (0 .. 600).");
        for (int minute : new int[] {0, 7, 40}) {
            for (int n : new int[] {0, 1, 2, 30, 359, 360, 361, 400, 599, 600}) {
                RatSorters x = busy(minute);
                RatSorters done = busy(minute);
                done.minutes(n);
                s.due("worth behind " + n, x.then(n, 0), allWorth(done));
                s.due("eaten behind " + n, x.then(n, 1), done.count(5));
                int inHeap = 0;
                for (int grain = 0; grain < BUSY_GRAINS; grain++) {
                    inHeap += done.heap(grain);
                    s.due("heap behind " + n, x.lies(n, -1, grain), done.heap(grain));
                    for (int hole = 0; hole < BUSY_HOLES; hole++) {
                        s.due("hole behind " + n, x.lies(n, hole, grain), done.hole(hole, grain));
                    }
                }
                s.due("all in the heap behind " + n, x.then(n, 2), inHeap);
                s.due("quarrels behind " + n, x.then(n, 5), done.count(10));
            }
        }
    }

    private static boolean isSortedForAll(RatSorters x) {
        boolean sorted = true;
        for (int rat = 0; rat < x.count(2); rat++) {
            sorted &= x.rat(rat, 0) != 1 && x.heap(x.rat(rat, 6)) == 0;
        }
        return sorted;
    }

    /** FEES and RATS by doing it with every set, -2 by none. */
    private static int[] hiredByDoing(Supplier<RatSorters> house, int[] fees, int n) {
        int[] best = {-2, -2};
        for (int set = 0; set < 1 << fees.length; set++) {
            RatSorters x = house.get();
            int fee = 0;
            for (int rat = 0; rat < fees.length; rat++) {
                x.send(rat, (set & 1 << rat) == 0);
                fee += (set & 1 << rat) == 0 ? 0 : fees[rat];
            }
            x.minutes(n);
            boolean better = best[0] == -2 || fee < best[0]
                    || fee == best[0] && Integer.bitCount(set) < Integer.bitCount(best[1]);
            if (better && isSortedForAll(x)) {
                best = new int[] {fee, set};
            }
        }
        return best;
    }

    private void hired() {
        s.says(TERMS, "HIRE by n MINUTES (1 .. 300): a set of RATS (the others are sent HOME, those of it that are HOME come back)"
                + " by which behind n MINUTES none is GOING and no GRAIN lies in the HEAP that some RAT (of all) KNOWS: the least"
                + " FEES;");
        for (int minute : new int[] {0, 7, 40}) {
            for (int n : new int[] {1, 2, 20, 60, 100, 150, 200, 299, 300}) {
                int[] due = hiredByDoing(() -> busy(minute), BUSY_FEES, n);
                s.due("fees at " + minute + " by " + n, busy(minute).hire(n, 0), due[0]);
                s.due("rats at " + minute + " by " + n, busy(minute).hire(n, 1), due[1]);
            }
        }
        // p carries a, q is home, r carries b: what those not hired carry falls, and all that any rat knows counts.
        RatSorters x = Check.of("grain a 5 1; grain b 5 1; hole h 3 a; rat p a h 0 9; rat q a h 0 1; rat r b h 0 2;");
        x.minutes(1);
        x.send(1, true);
        s.due("p and r are on their way", x.hire(2, 1), -2);
        s.due("p and r are there", x.hire(3, 1), 5);
        s.due("q comes back", x.hire(4, 1), 6);
        s.due("q comes back: fees", x.hire(4, 0), 3);
        x.send(2, true);
        s.due("r at home knows b", x.hire(4, 1), 6);
        x.teach(2, 0);
        s.due("none knows b", x.hire(4, 1), 2);
        // Just n minutes: behind 4 it is sorted, too, but not at 2 minutes, while one is going.
        RatSorters going = Check.of("grain a 5 1; hole h 2 a; rat p a h 0 3;");
        int[] fees = {-2, -2, 3, 3, 3};
        for (int n = 1; n <= 5; n++) {
            s.due("by " + n, going.hire(n, 0), fees[n - 1]);
        }
    }

    private void hiredAlike() {
        s.says(TERMS, "of alike ones the fewest RATS, then the least bits.");
        String house = "grain a 5 1; grain b 0 1; hole h 1 a; rat p b h 0 0; rat q a h 0 3; rat r a h 0 3; rat t b h 0 0;";
        s.due("not with p and t, who cost nothing", Check.of(house).hire(9, 1), 2);
        s.due("their fees", Check.of(house).hire(9, 0), 3);
        // p and q together cost as much as r, who brings both loads alone.
        String pair = "grain a 10 1; hole h 3 a; hole i 1 a; rat p a h 0 1; rat q a h 0 1; rat r a i 0 2;";
        s.due("r alone", Check.of(pair).hire(5, 1), 4);
        s.due("the fees of r", Check.of(pair).hire(5, 0), 2);
        s.due("nobody is the fewest", Check.of("grain a 0 1; hole h 1 a; rat p a h 0 0;").hire(1, 1), 0);
        s.due("the least bits of two", Check.of("grain a 5 1; hole h 1 a; rat p a h 0 2; rat q a h 0 2;").hire(2, 1), 1);
    }

    /** The best way and its WORTH by doing every way: the grain of each rat, then the WORTH. */
    private static int[] taughtByDoing(Supplier<RatSorters> house, int[] rats, int n) {
        int[] best = null;
        int ways = (int) Math.round(Math.pow(BUSY_GRAINS, rats.length));
        for (int way = 0; way < ways; way++) {
            RatSorters x = house.get();
            int[] tried = new int[rats.length + 1];
            int rest = way;
            for (int i = rats.length - 1; i >= 0; i--) {
                tried[i] = rest % BUSY_GRAINS;
                x.teach(rats[i], tried[i]);
                rest /= BUSY_GRAINS;
            }
            x.minutes(n);
            tried[rats.length] = allWorth(x);
            if (best == null || tried[rats.length] > best[rats.length]) {
                best = tried;
            }
        }
        return best;
    }

    private void taughtBest() {
        s.says(TERMS, "TAUGHT: of all ways to TEACH a set of RATS (4 at most) a GRAIN each (or the one it KNOWS), that by which WORTH"
                + " of all HOLES together is most behind n MINUTES; of alike ones the first by the first RAT's GRAIN, then the"
                + " next one's.");
        int[][] sets = {{0}, {1}, {3}, {0, 2}, {1, 3}, {0, 1, 2}, {0, 1, 2, 3}};
        for (int minute : new int[] {0, 7, 40}) {
            for (int[] rats : sets) {
                for (int n : new int[] {1, 2, 13, 50, 299, 300}) {
                    int set = 0;
                    for (int rat : rats) {
                        set |= 1 << rat;
                    }
                    int[] due = taughtByDoing(() -> busy(minute), rats, n);
                    RatSorters x = busy(minute);
                    String when = "set " + set + " at " + minute + " by " + n;
                    s.due(when + ": worth", x.taught(set, n), due[rats.length]);
                    for (int i = 0; i < rats.length; i++) {
                        s.due(when + ": the " + i + "-th", x.taughtAt(set, n, i), due[i]);
                    }
                }
            }
        }
        // Nothing is there behind a minute: all ways are alike.
        RatSorters x = Check.of("grain a 9 1; grain b 9 2; grain c 9 3; hole h 1 b; hole i 1 c; rat p c h 0 0; rat q c i 0 0;");
        s.due("alike: the first rat's first", x.taughtAt(3, 1, 0), 0);
        s.due("alike: the next one's first", x.taughtAt(3, 1, 1), 0);
        s.due("the one it knows", x.taughtAt(2, 3, 0), 2);
        s.due("both: p", x.taughtAt(3, 2, 0), 1);
        s.due("both: q", x.taughtAt(3, 2, 1), 2);
    }

    private void swappedBest() {
        s.says(TERMS, "BEST SWAP: two HOLES that change how FAR they are, now, so that CLEAN BY is least (less than as it is); of alike"
                + " ones the first by the lesser number, then the other one.");
        int[][] fars = {{1, 1, 4, 9}, {9, 4, 1, 1}, {4, 9, 1, 2}, {3, 3, 3, 3}, {30, 29, 2, 28}, {1, 2, 3, 4}, {30, 30, 30, 29}};
        for (int[] far : fars) {
            for (char home = 'h'; home <= 'k'; home++) {
                int[] due = {-2, house(far, home).clean()};
                for (int hole = 0; hole < 4; hole++) {
                    for (int other = hole + 1; other < 4; other++) {
                        int[] changed = far.clone();
                        changed[hole] = far[other];
                        changed[other] = far[hole];
                        int by = house(changed, home).clean();
                        if (by != -2 && (due[1] == -2 || by < due[1])) {
                            due = new int[] {10 * hole + other, by};
                        }
                    }
                }
                s.due("which, as far as " + far[0] + " .. " + far[3], house(far, home).bestSwap(0), due[0]);
                s.due("clean by, as far as " + far[0] + " .. " + far[3], house(far, home).bestSwap(1), due[1]);
            }
        }
        // Now: one on its way keeps its minutes, and goes back as far as the hole is then.
        RatSorters way = Check.of("grain a 10 1; hole h 1 a; hole i 1 a; hole j 4 a; hole k 9 a; rat r a k 0 0;");
        way.minutes(1);
        s.due("on its way", way.bestSwap(0), 3);
        s.due("on its way: 9, 1, 1, 1", way.bestSwap(1), 12);
    }

    private static RatSorters house(int[] far, char home) {
        return Check.of("grain a 95 1; hole h " + far[0] + " a; hole i " + far[1] + " a; hole j " + far[2] + " a; hole k " + far[3]
                + " a; rat r a " + home + " 0 0; rat q a i 0 0; load = 4 + far / 4; errs = 20;");
    }

    private void missedMost() {
        s.says(TERMS, "MISSED: the RAT without which (sent HOME now) WORTH of all HOLES is least behind n MINUTES; of alike ones the"
                + " first.");
        for (int minute : new int[] {0, 7, 40}) {
            for (int n : new int[] {0, 1, 5, 50, 599, 600}) {
                int[] due = {-2, -2};
                for (int rat = 0; rat < BUSY_RATS; rat++) {
                    RatSorters x = busy(minute);
                    if (x.send(rat, true)) {
                        x.minutes(n);
                        due = due[0] == -2 || allWorth(x) < due[1] ? new int[] {rat, allWorth(x)} : due;
                    }
                }
                s.due("who at " + minute + " by " + n, busy(minute).missed(n, 0), due[0]);
                s.due("worth at " + minute + " by " + n, busy(minute).missed(n, 1), due[1]);
            }
        }
        RatSorters alike = Check.of("grain a 4 3; grain b 4 3; hole h 1 a; hole i 1 b; rat r b i 0 0; rat q a h 0 0;");
        s.due("of alike ones the first", alike.missed(9, 0), 0);
        alike.send(0, true);
        s.due("the first that is not home", alike.missed(9, 0), 1);
    }

    private void catCostsLeast() {
        s.says(TERMS, "CAT AT in n MINUTES (1 .. 120): behind how many of them (0 .. n - 1) a CAT for 10 MINUTES costs least WORTH"
                + " behind n + 10; of alike ones the first.");
        for (int minute : new int[] {0, 7, 40, 395}) {
            for (int n : new int[] {1, 2, 9, 30, 119, 120}) {
                int[] due = {-1, -1};
                for (int start = 0; start < n; start++) {
                    RatSorters x = busy(minute);
                    x.minutes(start);
                    x.cat(10);
                    x.minutes(n + 10 - start);
                    due = allWorth(x) > due[1] ? new int[] {start, allWorth(x)} : due;
                }
                s.due("when at " + minute + " in " + n, busy(minute).catAt(n, 0), due[0]);
                s.due("worth at " + minute + " in " + n, busy(minute).catAt(n, 1), due[1]);
            }
        }
        // One load is dropped behind 2 minutes; the next is loaded at 3, if there is no cat by then.
        RatSorters x = Check.of("grain a 10 3; hole h 1 a; rat r a h 0 0;");
        int[][] due = {{1, 0, 0}, {2, 0, 15}, {4, 1, 30}, {5, 0, 30}, {120, 0, 30}};
        for (int[] d : due) {
            s.due("when in " + d[0], x.catAt(d[0], 0), d[1]);
            s.due("worth in " + d[0], x.catAt(d[0], 1), d[2]);
        }
        // It is there again in the minute that comes, and loads in the next one, if the cat is not there by then.
        RatSorters late = Check.of("grain a 99 3; hole h 11 a; rat r a h 0 0; load = 1;");
        late.minutes(22);
        s.due("behind n - 1", late.catAt(3, 0), 2);
        s.due("behind n - 1: worth", late.catAt(3, 1), 6);
    }

    private void starvesFirst() {
        s.says(TERMS, "STARVES: behind how many MINUTES (0 .. 600) HUNGER of a RAT is 99 for the first time.");
        String house = "hole h 1 a; rat r a h 0 0; lamp 0; odd 3;";
        s.due("99", Check.of("grain a 0 1;" + house).starves(0), 99);
        // It eats one behind every third minute.
        s.due("600", Check.of("grain a 167 1;" + house).starves(0), 600);
        s.due("603 is too late", Check.of("grain a 168 1;" + house).starves(0), -2);
        RatSorters x = Check.of("grain a 0 1;" + house);
        x.minutes(98);
        s.due("1", x.starves(0), 1);
        x.minutes(1);
        s.due("0", x.starves(0), 0);
        x.minutes(300);
        s.due("0 however long since", x.starves(0), 0);
        s.due("it eats just then", Check.of("grain a 9 1; hole h 1 a; rat r a h 0 0; lamp 0; odd 99;").starves(0), -2);
        RatSorters first = Check.of("grain a 0 1; hole h 1 a; rat r a h 0 0;");
        first.minutes(50);
        s.due("for the first time", first.starves(0), 49);
        for (int rat = 0; rat < BUSY_RATS; rat++) {
            int by = busy(40).starves(rat);
            if (by > 0) {
                RatSorters done = busy(40);
                done.minutes(by - 1);
                s.due("ahead of it", done.rat(rat, 4) < 99, true);
                done.minutes(1);
                s.due("then", done.rat(rat, 4), 99);
            }
        }
    }

    private void meanOfSeeds() {
        s.says(TERMS, "MEAN of s SEEDS (1 .. 20) from the text's SEED on: how many grains lie in HOLES that are not theirs behind n"
                + " MINUTES, in all of these together.");
        String house = BUSY.replace("seed 41;", "");
        for (int seed : new int[] {0, 41, 9980, 9979}) {
            for (int n : new int[] {0, 1, 25, 600}) {
                int all = 0;
                for (int many = 1; many <= 20; many++) {
                    // What a text cannot tell is no seed of its own: 9999 is the last one here.
                    all += Check.of(house + "seed " + (seed + many - 1) + ";").then(n, 4);
                    s.due(many + " seeds from " + seed + " by " + n, Check.of(house + "seed " + seed + ";").mean(many, n), all);
                }
            }
        }
        // Of 9999 on the lots of minute 0 are 86 54 62 77 20 33: none of them starts again at 0, whose lots are 83 41.
        String text = "grain a 5 1; grain b 1 1; hole h 1 a; hole i 1 b; rat r a h 0 0; errs = 50; seed 9999;";
        int[] due = {0, 0, 0, 0, 5, 10};
        for (int many = 1; many <= 6; many++) {
            s.due(many + " seeds from 9999", Check.of(text).mean(many, 2), due[many - 1]);
        }
        // From now on: what was dropped lies there by every seed.
        RatSorters x = busy(40);
        s.due("now", x.mean(20, 0), 20 * x.then(0, 4));
        s.due("the seed is as it was", x.mean(1, 60), busy(40).then(60, 4));
    }

    private void salesBest() {
        s.says(TERMS, "SALES: which MERCHANTS not sold to yet could all be sold to out of HOLES so that they PAY most together; of alike"
                + " ones the least bits.");
        String house = "grain a 5 1; grain b 5 1; hole h 1 a; hole i 1 b; rat r a h 0 0; rat q b i 0 0;";
        RatSorters x = Check.of(house + "wants 5 a 3; wants 6 a 3; wants 10 a 5 b 5; wants 0 a 1; wants 5 b 1;");
        s.due("nothing yet", x.sales(1), 0);
        x.minutes(2);
        s.due("1 and 4", x.sales(1), 18);
        s.due("1 and 4 pay", x.sales(0), 11);
        x.sell(4);
        s.due("not sold to yet: 1 alone", x.sales(1), 2);
        s.due("not sold to yet: 1 pays", x.sales(0), 6);
        RatSorters alike = Check.of(house + "wants 5 a 3; wants 5 b 3; wants 10 a 5 b 5; wants 5 a 2; wants 0;");
        alike.minutes(2);
        s.due("0, 1 and 3, not 4, who pays nothing", alike.sales(1), 11);
        alike.sell(3);
        s.due("0 and 1", alike.sales(1), 3);
        RatSorters one = Check.of(house + "wants 9 a 4; wants 9 a 3; wants 9 a 5;");
        one.minutes(2);
        s.due("of alike ones the least bits", one.sales(1), 1);
        RatSorters other = Check.of(house + "wants 4 a 6; wants 9 b 5; wants 9 b 4 a 5;");
        other.minutes(2);
        s.due("one grain too few", other.sales(1), 2);
        other.swap(0, 1);
        s.due("out of holes that are of it alone", other.sales(1), 0);
    }

    private void clean() {
        s.says("Promise 21", "CLEAN BY;");
        RatSorters x = busy(7);
        int by = 0;
        for (RatSorters done = busy(7); !done.isClean(); done.minutes(1)) {
            by++;
        }
        s.still("clean()", x, by, RatSorters::clean);
        x.minutes(by);
        s.still("clean already", x, 0, RatSorters::clean);
        s.still("of nothing", new RatSorters(), 0, RatSorters::clean);

        s.says("Promise 21", "-2: not.");
        s.still("too much", Check.of("grain g 9999 1; hole h 30 g; rat r g h 0 0;"), -2, RatSorters::clean);
        s.still("11 ways of 61 minutes", Check.of("grain g 11 1; hole h 30 g; rat r g h 0 0; load = 1;"), -2, RatSorters::clean);
        s.still("10 ways", Check.of("grain g 10 1; hole h 30 g; rat r g h 0 0; load = 1;"), 580, RatSorters::clean);
    }

    private void then() {
        s.says("Promise 22", "Behind n MINUTES (0 .. 600): what 0 WORTH of all HOLES, 1 grains eaten so far, 2 grains in the HEAP, 3 in"
                + " HOLES that are theirs, 4 in others, 5 QUARRELS so far;");
        RatSorters x = Check.of("grain a 10 3; grain b 4 5; hole h 1 a; hole i 2 b; rat p a h 0 7; rat q b i 0 4; rat r a i 3 1;"
                + " load = 4; odd 3;");
        int[][] due = {{0, 0, 14, 0, 0, 0}, {0, 0, 6, 0, 0, 1}, {12, 0, 2, 4, 0, 1}, {32, 0, 2, 8, 0, 1}, {12, 0, 0, 8, 4, 1},
            {18, 0, 0, 10, 4, 1}};
        for (int n = 0; n < due.length; n++) {
            for (int what = 0; what <= 5; what++) {
                s.due("then(" + n + ", " + what + ")", x.then(n, what), due[n][what]);
            }
        }
        s.due("then(600, 3)", x.then(600, 3), 10);
        RatSorters mixed = Check.of("grain a 4 3; grain b 4 5; grain c 3 1; hole h 1 a; hole i 1 b; hole j 1 c;"
                + " rat p b h 0 7; rat q c i 0 4; rat r a j 3 1;");
        s.due("all in others", mixed.then(2, 4), 11);
        s.due("none in theirs", mixed.then(2, 3), 0);
        s.due("the fullest house", fullest().then(600, 4), 0);
        s.due("the fullest house: in theirs", fullest().then(600, 3), 6 * 9);
        s.due("the fullest house: worth", fullest().then(600, 0), 9 * (1 + 2 + 3 + 4 + 5 + 6));
        s.due("the fullest house: by twenty seeds", fullest().mean(20, 600), 0);
        x.minutes(1);
        x.give(2, 0, 2);
        s.due("eaten so far", x.then(0, 1), 2);
        s.due("quarrels so far", x.then(0, 5), 1);

        s.says("Promise 22", "NONE: no such ones.");
        for (int none : new int[] {-1, 601, LEAST, LARGEST}) {
            s.none("then(" + none + ", 0)", x, y -> y.then(none, 0));
        }
        for (int none : new int[] {-1, 6, LEAST, LARGEST}) {
            s.none("then(0, " + none + ")", x, y -> y.then(0, none));
        }
        s.still("of nothing", new RatSorters(), 0, y -> y.then(600, 0));
    }

    /** As many of all as can be told; each of six grains goes to its hole. */
    private static RatSorters fullest() {
        String text = "wants 1;wants 2;wants 3;wants 4;wants 5;";
        for (int i = 0; i < 6; i++) {
            char c = (char) ('a' + i);
            text += "grain g" + c + " 9 " + (i + 1) + ";hole h" + c + " 1 g" + c + ";rat r" + c + " g" + c + " h" + c + " 0 0;";
        }
        return Check.of(text + "rat rg ga ha 0 0;rat rh gf hf 0 0;");
    }

    private void lies() {
        s.says("Promise 23", "How many of a GRAIN are in a HOLE behind n MINUTES (0 .. 600); hole NONE: in the HEAP;");
        RatSorters x = Check.of("grain a 10 3; grain b 4 5; hole h 1 a; hole i 2 b; rat p a h 0 7; rat q b i 0 4; load = 4; odd 99;");
        s.due("now", x.lies(0, -1, 0), 10);
        s.due("now, in a hole", x.lies(0, 0, 0), 0);
        s.due("behind 1", x.lies(1, RatSorters.NONE, 0), 6);
        s.due("behind 2", x.lies(2, 0, 0), 4);
        s.due("behind 3", x.lies(3, 1, 1), 4);
        s.due("behind 600", x.lies(600, 0, 0), 10);
        s.due("behind 600, in the heap", x.lies(600, -1, 1), 0);

        s.says("Promise 23", "NONE: no such ones.");
        for (int none : new int[] {-2, 2, 6, LEAST, LARGEST}) {
            s.none("lies(0, " + none + ", 0)", x, y -> y.lies(0, none, 0));
            s.none("lies(0, 0, " + none + ")", x, y -> y.lies(0, 0, none));
        }
        s.none("lies(0, 0, -1)", x, y -> y.lies(0, 0, -1));
        s.none("lies(0, -1, -1)", x, y -> y.lies(0, -1, -1));
        s.none("lies(0, -1, 2)", x, y -> y.lies(0, -1, 2));
        for (int none : new int[] {-1, 601, LEAST, LARGEST}) {
            s.none("lies(" + none + ", 0, 0)", x, y -> y.lies(none, 0, 0));
            s.none("lies(" + none + ", -1, 0)", x, y -> y.lies(none, -1, 0));
        }
        s.none("of nothing", new RatSorters(), y -> y.lies(0, -1, 0));
    }

    private void hire() {
        s.says("Promise 24", "HIRE: what 0 FEES, 1 the RATS (bits);");
        RatSorters x = Check.of("grain a 5 1; hole h 1 a; rat o a h 0 50; rat p a h 0 40; rat q a h 0 41;");
        s.still("fees", x, 40, y -> y.hire(2, 0));
        s.still("rats", x, 2, y -> y.hire(2, 1));
        s.still("by 300", x, 40, y -> y.hire(300, 0));
        s.still("of nothing: fees", new RatSorters(), 0, y -> y.hire(1, 0));
        s.still("of nothing: rats", new RatSorters(), 0, y -> y.hire(300, 1));
        String eight = "grain a 1 1; hole h 1 a;";
        for (char c = 'p'; c <= 'w'; c++) {
            eight += "rat " + c + " a h 0 " + (c == 'w' ? 98 : 99) + ";";
        }
        s.still("the last of eight", Check.of(eight), 128, y -> y.hire(2, 1));

        s.says("Promise 24", "-2: by none;");
        s.still("fees too soon", x, -2, y -> y.hire(1, 0));
        s.still("rats too soon", x, -2, y -> y.hire(1, 1));

        s.says("Promise 24", "NONE: no such ones.");
        for (int none : new int[] {0, -1, 301, LEAST, LARGEST}) {
            s.none("hire(" + none + ", 0)", x, y -> y.hire(none, 0));
            s.none("hire(" + none + ", 1)", x, y -> y.hire(none, 1));
        }
        for (int none : new int[] {-1, 2, LEAST, LARGEST}) {
            s.none("hire(1, " + none + ")", x, y -> y.hire(1, none));
        }
    }

    /** All know c, of which there is none, and go to the hole of b, which is grain 2. */
    private static RatSorters fiveRats() {
        String text = "grain c 0 1; grain a 9 1; grain b 9 1; hole h 1 a; hole i 1 b;";
        for (char rat = 'p'; rat <= 't'; rat++) {
            text += "rat " + rat + " c i 0 0;";
        }
        return Check.of(text);
    }

    /** All know a, of which there is none; of b there is a load. */
    private static String eightRats() {
        String text = "grain a 0 1; grain b 5 1; hole h 1 b;";
        for (char rat = 'p'; rat <= 'w'; rat++) {
            text += "rat " + rat + " a h 0 0;";
        }
        return text;
    }

    private void taught() {
        s.says("Promise 25", "TAUGHT for a set of RATS (bits, 1 to 4 of them), n 1 .. 300: WORTH;");
        RatSorters x = fiveRats();
        s.still("one rat", x, 5, y -> y.taught(1, 2));
        s.still("the last rat", x, 5, y -> y.taught(16, 2));
        s.still("four rats", x, 5, y -> y.taught(30, 2));
        s.still("1 minute", x, 0, y -> y.taught(15, 1));
        s.still("300 minutes", x, 9, y -> y.taught(15, 300));
        x.pour(2, 100);
        s.still("more was poured", x, 109, y -> y.taught(15, 300));
        s.still("more was poured: one rat, behind 2", x, 5, y -> y.taught(1, 2));
        x.hold(0);
        x.give(0, 2, 109);
        s.still("all is gone", x, 0, y -> y.taught(1, 2));
        x.restore(0);
        s.still("gone on from ahead of that", x, 5, y -> y.taught(1, 2));
        x.give(0, 2, 109);
        s.still("all is gone again", x, 0, y -> y.taught(1, 2));
        x.undo();
        s.still("that is undone", x, 5, y -> y.taught(1, 2));
        Check.read(x, "grain a 5 7; hole h 1 a; rat p a h 0 0;");
        s.still("another text, of one grain", x, 35, y -> y.taught(1, 2));
        Check.read(x, eightRats());
        s.still("the last of eight", x, 5, y -> y.taught(128, 2));
        s.still("the last of eight: which", x, 1, y -> y.taughtAt(128, 2, 0));
        s.still("the last four of eight: which", x, 1, y -> y.taughtAt(240, 2, 3));

        s.says("Promise 25", "NONE: no such ones, no GRAINS.");
        s.none("a ninth rat", x, y -> y.taught(256, 5));
        RatSorters five = fiveRats();
        for (int none : new int[] {0, 31, 32, 33, 64, 256, -1, LEAST, LARGEST}) {
            s.none("taught(" + none + ", 5)", five, y -> y.taught(none, 5));
        }
        for (int none : new int[] {0, -1, 301, LEAST, LARGEST}) {
            s.none("taught(1, " + none + ")", five, y -> y.taught(1, none));
        }
        s.none("no grains", new RatSorters(), y -> y.taught(1, 5));
        s.none("no rats", Check.of("grain a 1 1; hole h 1 a;"), y -> y.taught(1, 5));
    }

    private void taughtAt() {
        s.says("Promise 26", "The GRAIN of the i-th RAT of the set by it;");
        // Behind 2 minutes one load of b is there, whoever brings it: the last one, by the order.
        RatSorters x = fiveRats();
        int[] due = {0, 0, 0, 2};
        for (int i = 0; i < 4; i++) {
            int at = i;
            s.still("the " + i + "-th of four", x, due[i], y -> y.taughtAt(30, 2, at));
        }
        s.still("the last rat alone", x, 2, y -> y.taughtAt(16, 2, 0));
        s.still("of one grain", Check.of("grain a 5 7; hole h 1 a; rat p a h 0 0; rat q a h 0 0;"), 0, y -> y.taughtAt(3, 2, 1));

        s.says("Promise 26", "NONE: no such ones, not so many in the set.");
        for (int none : new int[] {-1, 4, 5, LEAST, LARGEST}) {
            s.none("taughtAt(30, 2, " + none + ")", x, y -> y.taughtAt(30, 2, none));
        }
        s.none("taughtAt(16, 2, 1)", x, y -> y.taughtAt(16, 2, 1));
        s.none("taughtAt(24, 2, 2)", x, y -> y.taughtAt(24, 2, 2));
        for (int none : new int[] {0, 31, 32, -1, LEAST, LARGEST}) {
            s.none("taughtAt(" + none + ", 2, 0)", x, y -> y.taughtAt(none, 2, 0));
        }
        for (int none : new int[] {0, -1, 301, LEAST, LARGEST}) {
            s.none("taughtAt(1, " + none + ", 0)", x, y -> y.taughtAt(1, none, 0));
        }
        s.none("no grains", new RatSorters(), y -> y.taughtAt(1, 5, 0));
    }

    private void bestSwap() {
        s.says("Promise 27", "BEST SWAP: what 0 10 * the lesser number + the other one (-2: none), 1 CLEAN BY then, or as it is (-2:"
                + " not);");
        String five = "grain a 10 1; hole h 9 a; hole i 9 a; hole j 9 a; hole k 9 a; hole l 1 a;";
        RatSorters x = Check.of(five + "hole m 8 a; rat r a m 0 0;");
        s.still("4 and 5", x, 45, y -> y.bestSwap(0));
        s.still("clean by then", x, 5, y -> y.bestSwap(1));
        RatSorters none = Check.of(five + "hole m 8 a; rat r a l 0 0;");
        s.still("none", none, -2, y -> y.bestSwap(0));
        s.still("as it is", none, 5, y -> y.bestSwap(1));
        RatSorters alike = Check.of("grain a 10 1; hole h 4 a; hole i 4 a; rat r a h 0 0;");
        s.still("not less: none", alike, -2, y -> y.bestSwap(0));
        s.still("not less: as it is", alike, 14, y -> y.bestSwap(1));
        RatSorters by = Check.of("grain a 11 1; hole h 30 a; hole i 25 a; rat r a h 0 0; load = 1;");
        s.still("not as it is", by, -2, RatSorters::clean);
        s.still("only then: which", by, 1, y -> y.bestSwap(0));
        s.still("only then: by", by, 10 * 51 + 26, y -> y.bestSwap(1));
        RatSorters never = Check.of("grain a 99 1; hole h 30 a; hole i 29 a; rat r a h 0 0; load = 1;");
        s.still("never: which", never, -2, y -> y.bestSwap(0));
        s.still("never: by", never, -2, y -> y.bestSwap(1));
        s.still("of nothing: which", new RatSorters(), -2, y -> y.bestSwap(0));
        s.still("of nothing: by", new RatSorters(), 0, y -> y.bestSwap(1));
        RatSorters little = Check.of("grain a 1 1; hole h 2 a; hole i 1 a; rat r a h 0 0;");
        s.still("a minute less: which", little, 1, y -> y.bestSwap(0));
        s.still("a minute less: by", little, 2, y -> y.bestSwap(1));
        s.still("of one hole", Check.of("grain a 1 1; hole h 3 a; rat r a h 0 0;"), -2, y -> y.bestSwap(0));

        s.says("Promise 27", "NONE for others.");
        for (int what : new int[] {-1, 2, LEAST, LARGEST}) {
            s.none("bestSwap(" + what + ")", x, y -> y.bestSwap(what));
        }
    }

    private void missed() {
        s.says("Promise 28", "MISSED (n 0 .. 600): what 0 which RAT, 1 WORTH without it;");
        RatSorters x = Check.of("grain a 4 3; grain b 4 5; hole h 1 a; hole i 1 b; rat r a h 0 0; rat q b i 0 0;");
        s.still("which", x, 1, y -> y.missed(600, 0));
        s.still("worth", x, 12, y -> y.missed(600, 1));
        s.still("which behind 0", x, 0, y -> y.missed(0, 0));
        s.still("worth behind 0", x, 0, y -> y.missed(0, 1));
        x.send(0, true);
        s.still("the one that is there", x, 1, y -> y.missed(9, 0));

        s.says("Promise 28", "-2: all are HOME, there are none;");
        x.send(1, true);
        s.still("all are home: which", x, -2, y -> y.missed(9, 0));
        s.still("all are home: worth", x, -2, y -> y.missed(9, 1));
        s.still("there are none: which", new RatSorters(), -2, y -> y.missed(0, 0));
        s.still("there are none: worth", new RatSorters(), -2, y -> y.missed(600, 1));

        s.says("Promise 28", "NONE: no such ones.");
        x.send(1, false);
        for (int none : new int[] {-1, 601, LEAST, LARGEST}) {
            s.none("missed(" + none + ", 0)", x, y -> y.missed(none, 0));
            s.none("missed(" + none + ", 1)", x, y -> y.missed(none, 1));
        }
        for (int none : new int[] {-1, 2, LEAST, LARGEST}) {
            s.none("missed(5, " + none + ")", x, y -> y.missed(5, none));
        }
    }

    private void catAt() {
        s.says("Promise 29", "CAT AT: what 0 behind how many, 1 WORTH;");
        RatSorters x = Check.of("grain a 10 3; hole h 1 a; rat r a h 0 0;");
        s.still("when", x, 1, y -> y.catAt(4, 0));
        s.still("worth", x, 30, y -> y.catAt(4, 1));
        s.still("in 1: when", x, 0, y -> y.catAt(1, 0));
        s.still("in 1: worth", x, 0, y -> y.catAt(1, 1));
        s.still("in 120: worth", x, 30, y -> y.catAt(120, 1));
        s.still("of nothing: when", new RatSorters(), 0, y -> y.catAt(120, 0));
        s.still("of nothing: worth", new RatSorters(), 0, y -> y.catAt(1, 1));

        s.says("Promise 29", "NONE: no such ones.");
        for (int none : new int[] {0, -1, 121, LEAST, LARGEST}) {
            s.none("catAt(" + none + ", 0)", x, y -> y.catAt(none, 0));
            s.none("catAt(" + none + ", 1)", x, y -> y.catAt(none, 1));
        }
        for (int none : new int[] {-1, 2, LEAST, LARGEST}) {
            s.none("catAt(1, " + none + ")", x, y -> y.catAt(1, none));
        }
    }

    private void starves() {
        s.says("Promise 30", "STARVES;");
        RatSorters x = Check.of("grain a 0 1; grain b 1 1; hole h 1 a; rat r a h 0 0; rat q a h 0 0; odd 60;");
        s.still("r eats at 60", x, 159, y -> y.starves(0));
        s.still("q does not", x, 99, y -> y.starves(1));
        x.minutes(99);
        s.still("now", x, 0, y -> y.starves(1));
        x.send(1, true);
        s.still("now, at home", x, 0, y -> y.starves(1));

        s.says("Promise 30", "-2: not;");
        x.send(0, true);
        s.still("at home", x, -2, y -> y.starves(0));
        s.still("fed enough", Check.of("grain a 99 1; hole h 1 a; rat r a h 0 0; lamp 0;"), -2, y -> y.starves(0));

        s.says("Promise 30", "NONE: no such RAT.");
        for (int none : new int[] {-1, 2, 8, LEAST, LARGEST}) {
            s.none("starves(" + none + ")", x, y -> y.starves(none));
        }
        s.none("of nothing", new RatSorters(), y -> y.starves(0));
    }

    private void mean() {
        s.says("Promise 31", "MEAN (n 0 .. 600);");
        RatSorters x = Check.of("grain a 5 1; grain b 1 1; hole h 1 a; hole i 1 b; rat r a h 0 0; errs = 100;");
        s.still("1 seed", x, 5, y -> y.mean(1, 2));
        s.still("20 seeds", x, 100, y -> y.mean(20, 600));
        s.still("behind 0", x, 0, y -> y.mean(20, 0));
        s.still("of nothing", new RatSorters(), 0, y -> y.mean(20, 600));

        s.says("Promise 31", "NONE: no such ones.");
        for (int none : new int[] {0, -1, 21, LEAST, LARGEST}) {
            s.none("mean(" + none + ", 2)", x, y -> y.mean(none, 2));
        }
        for (int none : new int[] {-1, 601, LEAST, LARGEST}) {
            s.none("mean(1, " + none + ")", x, y -> y.mean(1, none));
        }
    }

    private void sales() {
        s.says("Promise 32", "SALES: what 0 what they PAY, 1 the MERCHANTS (bits);");
        RatSorters x = Check.of("wants 9999; wants 9999; wants 9999; wants 9999; wants 9999;");
        s.still("all five pay", x, 49995, y -> y.sales(0));
        s.still("all five", x, 31, y -> y.sales(1));
        x.sell(4);
        s.still("the last one is sold to", x, 15, y -> y.sales(1));
        s.still("of nothing: pay", new RatSorters(), 0, y -> y.sales(0));
        s.still("of nothing: who", new RatSorters(), 0, y -> y.sales(1));

        s.says("Promise 32", "NONE for others.");
        for (int none : new int[] {-1, 2, LEAST, LARGEST}) {
            s.none("sales(" + none + ")", x, y -> y.sales(none));
        }
    }
}
