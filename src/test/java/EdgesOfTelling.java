import java.util.ArrayList;
import java.util.List;

/** The sentences on what is told, jokes, what is held and what is counted, and promises 33 to 38. */
final class EdgesOfTelling {
    private static final String TERMS = "Terms";
    private static final int LEAST = Integer.MIN_VALUE;
    private static final int LARGEST = Integer.MAX_VALUE;
    /** Behind 2 minutes h has 5 of a and i 4 of b, and nothing more comes. */
    private static final String STILL = "grain a 5 1; grain b 4 1; hole h 1 a; hole i 1 b; hole j 1 a;"
            + " rat r a h 0 0; rat q b i 0 0;";
    private static final String BUSY = "seed 41; grain a 400 3; grain b 300 5; hole h 1 a; hole i 3 b; hole j 4 a;"
            + " rat p a h 0 7; rat q b i 1 4; rat t a j 3 5; load = 4 + fat; eats = hunger / 6; errs = 15; odd 9; lamp 80;";
    private static final int HOLES = 3;
    private static final int MOST_JOKE = 60;

    private final Sentences s;

    private EdgesOfTelling(Sentences s) {
        this.s = s;
    }

    static void all(Sentences s) {
        EdgesOfTelling t = new EdgesOfTelling(s);
        t.told();
        t.known();
        t.jokesDone();
        t.tell();
        t.forget();
        t.jokes();
        t.noSuchJokes();
        t.hold();
        t.restore();
        t.count();
    }

    private void told() {
        s.says(TERMS, "TOLD: how many of a GRAIN were in a HOLE behind n MINUTES (0 .. 99) of the text, nothing else by hand, 20 at most,"
                + " numbered from 0 on;");
        RatSorters x = Check.of(STILL);
        // Of the text: whatever is done by hand since is nothing to it.
        x.swap(0, 1);
        x.pour(0, 50);
        x.teach(0, 1);
        x.send(1, true);
        x.minutes(9);
        x.swap(0, 1);
        s.due("number 0", x.tell(0, 0, 1, 0), 0);
        s.due("number 1", x.tell(0, 0, 2, 5), 1);
        s.due("number 2", x.tell(1, 1, 99, 4), 2);
        s.due("it can be without a joke", x.jokes(3, 0), -3);
        s.due("number 3", x.tell(0, 0, 0, 0), 3);
        s.due("behind 0 minutes holes are empty", x.jokes(4, 0), -3);
        for (int i = 4; i < 20; i++) {
            s.due("number " + i, x.tell(2, 0, 99, 0), i);
        }
        s.due("20 at most", x.tell(2, 0, 99, 0), -1);
        RatSorters late = Check.of("grain a 9999 1; hole h 1 a; rat r a h 0 0; load = 1;");
        late.tell(0, 0, 99, 33);
        s.due("behind 99 minutes: 33", late.jokes(1, 0), -3);
        late.tell(0, 0, 98, 33);
        s.due("behind 98 minutes: 33", late.jokes(2, 0), -3);
        late.tell(0, 0, 97, 32);
        s.due("behind 97 minutes: 32", late.jokes(3, 0), -3);
        late.tell(0, 0, 97, 33);
        s.due("not both", late.jokes(4, -1), 0);
    }

    private void known() {
        s.says(TERMS, "KNOWN by k: the first k.");
        RatSorters x = Check.of(STILL);
        x.tell(0, 1, 10, 4);
        x.tell(1, 1, 5, 4);
        x.tell(0, 0, 0, 1);
        int[] due = {1 + 3 * 61, 9, 5, 0};
        for (int k = 0; k <= 3; k++) {
            s.due("by " + k, x.jokes(k, -1), due[k]);
        }
        s.due("by 0 again", x.jokes(0, -1), due[0]);
    }

    /** How many of a grain were in a hole behind n minutes, if two were swapped behind so many of them. */
    private static int[][] swapped(String text, int hole, int other, int behind, int n) {
        RatSorters x = Check.of(text);
        if (hole >= 0 && behind <= n) {
            x.minutes(behind);
            x.swap(hole, other);
            x.minutes(n - behind);
        } else {
            x.minutes(n);
        }
        int[][] there = new int[HOLES][2];
        for (int h = 0; h < HOLES; h++) {
            for (int g = 0; g < 2; g++) {
                there[h][g] = x.hole(h, g);
            }
        }
        return there;
    }

    private void jokesDone() {
        s.says(TERMS, "JOKES: two HOLES and how many MINUTES (0 .. 60) behind which they were SWAPPED, or none: with which all that is"
                + " KNOWN is so (SWAPPED behind as many: looked at behind that): how many; which.");
        // What was told came about by a joke; all that tell the same of it are found, and no other.
        int[][] jokes = {{-1, -1, 0}, {0, 1, 0}, {0, 1, 1}, {0, 2, 20}, {1, 2, 30}, {0, 1, 59}, {0, 2, 60}, {1, 2, 60}};
        int[] looked = {30, 60, 61, 99};
        for (int[] joke : jokes) {
            RatSorters x = Check.of(BUSY);
            int[][] facts = new int[looked.length][];
            for (int i = 0; i < looked.length; i++) {
                int hole = (i + 1) % HOLES;
                int grain = i == 2 ? 1 : 0;
                int many = swapped(BUSY, joke[0], joke[1], joke[2], looked[i])[hole][grain];
                facts[i] = new int[] {hole, grain, looked[i], many};
                x.tell(hole, grain, looked[i], many);
            }
            for (int k = 1; k <= looked.length; k++) {
                List<Integer> due = found(facts, k);
                s.due("how many by " + k, x.jokes(k, -1), due.size());
                for (int i = 0; i < due.size(); i++) {
                    s.due("the " + i + "-th by " + k, x.jokes(k, i), due.get(i));
                }
            }
        }
        // Swapped behind 10, looked at behind 10: what was h's is i's by then.
        RatSorters x = Check.of(STILL);
        x.tell(1, 0, 10, 5);
        x.tell(0, 0, 9, 5);
        s.due("looked at behind the swap", x.jokes(2, -1), 1);
        s.due("looked at behind the swap: which", x.jokes(2, 0), 110);
        RatSorters last = Check.of(STILL);
        last.tell(1, 0, 60, 5);
        last.tell(0, 0, 59, 5);
        s.due("behind 60", last.jokes(2, 0), 160);
        RatSorters late = Check.of(STILL);
        late.tell(1, 0, 61, 5);
        late.tell(0, 0, 60, 5);
        s.due("behind 61 there is none", late.jokes(2, -1), 0);
    }

    /** The jokes with which the first k facts are so, found by doing each of them. */
    private static List<Integer> found(int[][] facts, int k) {
        List<Integer> all = new ArrayList<>();
        if (isSo(facts, k, -1, -1, 0)) {
            all.add(-3);
        }
        for (int hole = 0; hole < HOLES; hole++) {
            for (int other = hole + 1; other < HOLES; other++) {
                for (int behind = 0; behind <= MOST_JOKE; behind++) {
                    if (isSo(facts, k, hole, other, behind)) {
                        all.add(1000 * hole + 100 * other + behind);
                    }
                }
            }
        }
        return all;
    }

    private static boolean isSo(int[][] facts, int k, int hole, int other, int behind) {
        for (int i = 0; i < k; i++) {
            int[] f = facts[i];
            if (swapped(BUSY, hole, other, behind, f[2])[f[0]][f[1]] != f[3]) {
                return false;
            }
        }
        return true;
    }

    private void tell() {
        s.says("Promise 33", "It is TOLD: its number;");
        RatSorters x = Check.of(STILL);
        for (int i = 0; i < 20; i++) {
            s.due("tell " + i, x.tell(i % 3, i % 2, i == 0 ? 0 : 99, i == 0 ? 0 : 9999), i);
            s.due("count(13)", x.count(13), i + 1);
        }

        s.says("Promise 33", "NONE, and nothing happens: 20 are there, no such ones (many 0 .. 9999).");
        s.none("a 21st", x, y -> y.tell(0, 0, 0, 0));
        RatSorters z = Check.of(STILL);
        z.tell(0, 0, 2, 5);
        for (int none : new int[] {-1, 3, 6, LEAST, LARGEST}) {
            s.none("tell(" + none + ", 0, 0, 0)", z, y -> y.tell(none, 0, 0, 0));
            s.none("tell(0, " + none + ", 0, 0)", z, y -> y.tell(0, none, 0, 0));
        }
        s.none("tell(0, 2, 0, 0)", z, y -> y.tell(0, 2, 0, 0));
        for (int none : new int[] {-1, 100, LEAST, LARGEST}) {
            s.none("tell(0, 0, " + none + ", 0)", z, y -> y.tell(0, 0, none, 0));
        }
        for (int none : new int[] {-1, 10000, LEAST, LARGEST}) {
            s.none("tell(0, 0, 0, " + none + ")", z, y -> y.tell(0, 0, 0, none));
        }
        s.due("what was told stays", z.jokes(1, -1), 1 + 2 * 2 + 61 + 2 * 58);
        s.none("of nothing", new RatSorters(), y -> y.tell(0, 0, 0, 0));
    }

    private void forget() {
        s.says("Promise 34", "All that was TOLD is forgotten: how many there were.");
        RatSorters x = Check.of(STILL);
        s.still("none", x, 0, RatSorters::forget);
        for (int many = 1; many <= 20; many += 19) {
            for (int i = 0; i < many; i++) {
                x.tell(0, 0, 0, 1);
            }
            s.due("forget() of " + many, x.forget(), many);
            s.due("none are there", x.count(13), 0);
            s.due("none are known", x.jokes(1, -1), -1);
            s.due("all can be", x.jokes(0, -1), 1 + 3 * 61);
        }
        s.due("from 0 on again", x.tell(0, 0, 0, 0), 0);
        s.due("it is no thing done", x.count(12), 0);
    }

    private void jokes() {
        s.says("Promise 35", "JOKES, as KNOWN by k: how many (i NONE), else the i-th (none ahead of all: -3; then by the lesser HOLE, the"
                + " other one, the MINUTES: 1000 * the lesser + 100 * the other + MINUTES);");
        RatSorters x = Check.of(STILL);
        s.still("how many", x, 184, y -> y.jokes(0, RatSorters.NONE));
        int[][] due = {{0, -3}, {1, 100}, {2, 101}, {61, 160}, {62, 200}, {122, 260}, {123, 1200}, {183, 1260}};
        for (int[] d : due) {
            s.still("the " + d[0] + "-th", x, d[1], y -> y.jokes(0, d[0]));
        }
        x.tell(0, 0, 99, 0);
        // h is swapped behind its load came: with i or j, behind 2 .. 60.
        s.still("not none: how many", x, 118, y -> y.jokes(1, -1));
        s.still("not none: the first", x, 102, y -> y.jokes(1, 0));
        s.still("not none: the last", x, 260, y -> y.jokes(1, 117));
        String six = "grain a 5 1; hole h 1 a; hole i 1 a; hole j 1 a; hole k 1 a; hole l 1 a; hole m 1 a;";
        s.still("six holes", Check.of(six), 1 + 15 * 61, y -> y.jokes(0, -1));
        s.still("six holes: the last", Check.of(six), 4560, y -> y.jokes(0, 15 * 61));
        s.still("no holes", new RatSorters(), 1, y -> y.jokes(0, -1));
        s.still("no holes: none", new RatSorters(), -3, y -> y.jokes(0, 0));
        s.still("one hole", Check.of("grain a 5 1; hole h 1 a;"), 1, y -> y.jokes(0, -1));
        Check.read(x, STILL + "load = 1;");
        x.tell(0, 0, 2, 5);
        s.still("by another text", x, 0, y -> y.jokes(1, -1));
    }

    private void noSuchJokes() {
        s.says("Promise 35", "NONE: no such ones, not so many.");
        RatSorters x = Check.of(STILL);
        x.tell(0, 0, 99, 0);
        for (int none : new int[] {-1, 2, 20, 21, LEAST, LARGEST}) {
            s.none("jokes(" + none + ", -1)", x, y -> y.jokes(none, -1));
            s.none("jokes(" + none + ", 0)", x, y -> y.jokes(none, 0));
        }
        for (int none : new int[] {-2, -3, 118, LEAST, LARGEST}) {
            s.none("jokes(1, " + none + ")", x, y -> y.jokes(1, none));
        }
        for (int none : new int[] {-2, 184, LEAST, LARGEST}) {
            s.none("jokes(0, " + none + ")", x, y -> y.jokes(0, none));
        }
        x.tell(0, 0, 0, 1);
        s.none("of none the first", x, y -> y.jokes(2, 0));
        s.still("of none how many", x, 0, y -> y.jokes(2, -1));
        s.none("of none the next", new RatSorters(), y -> y.jokes(0, 1));
    }

    private void hold() {
        s.says("Promise 36", "All that goes on (not what is TOLD, nor the tape) is held in a SLOT (0 .. 2): true;");
        RatSorters x = Check.of(BUSY + "wants 3 a 1; wants 4;");
        RatSorters y = Check.of(BUSY + "wants 3 a 1; wants 4;");
        for (RatSorters one : new RatSorters[] {x, y}) {
            one.minutes(20);
            one.sell(0);
            one.cat(5);
            one.teach(0, 1);
            one.give(0, 0, 3);
            one.send(1, true);
            one.pour(1, 7);
        }
        for (int slot = 0; slot < 3; slot++) {
            s.due("hold(" + slot + ")", x.hold(slot), true);
            s.due("count(14)", x.count(14), slot + 1);
        }
        s.due("what was done can be undone", x.count(12), y.count(12));
        s.due("hold is no thing done", x.undo() && y.undo(), true);
        s.due("so pour was undone", x.heap(1), y.heap(1));
        y.pour(1, 7);
        x.minutes(60);
        x.swap(0, 2);
        x.sell(1);
        x.tell(0, 0, 1, 1);
        Check.feed(x, "odd 5;");
        s.due("restore", x.restore(1), true);
        s.due("not what is told", x.count(13), 1);
        s.due("nor the tape", x.count(11), 6);
        x.forget();
        x.back(6);
        y.minutes(0);
        for (int n = 0; n < 30; n++) {
            for (int what : new int[] {4, 5, 6, 7, 8, 9, 10, 15}) {
                s.due("all that goes on: count(" + what + ")", x.count(what), y.count(what));
            }
            for (int rat = 0; rat < 3; rat++) {
                for (int what = 0; what <= 8; what++) {
                    s.due("all that goes on: rat(" + rat + ", " + what + ")", x.rat(rat, what), y.rat(rat, what));
                }
            }
            for (int hole = 0; hole < HOLES; hole++) {
                s.due("all that goes on: worth(" + hole + ")", x.worth(hole), y.worth(hole));
            }
            x.minutes(1);
            y.minutes(1);
        }
        s.due("over what is held", x.hold(1), true);
        s.due("over what is held: three yet", x.count(14), 3);
        int minute = x.count(4);
        x.minutes(1);
        x.restore(1);
        s.due("the later one is held", x.count(4), minute);
        x.restore(2);
        s.due("the others hold what they held", x.count(4), 20);
        s.due("of nothing", new RatSorters().hold(0), true);

        s.says("Promise 36", "false: no such one.");
        for (int none : new int[] {-1, 3, LEAST, LARGEST}) {
            s.refused("hold(" + none + ")", x, z -> z.hold(none));
        }
    }

    private void restore() {
        s.says("Promise 37", "It goes on from what a SLOT holds (that stays there; nothing can be undone then): true;");
        RatSorters x = Check.of(BUSY);
        x.minutes(7);
        x.hold(2);
        x.minutes(30);
        x.hold(0);
        x.cat(9);
        for (int i = 0; i < 3; i++) {
            s.due("restore(2)", x.restore(2), true);
            s.due("minute 7", x.count(4), 7);
            s.due("no cat", x.count(9), 0);
            s.due("it stays there", x.count(14), 2);
            s.due("nothing can be undone", x.count(12), 0);
            s.refused("undo()", x, RatSorters::undo);
            x.minutes(100);
            x.swap(0, 1);
            s.due("what is done since can be", x.undo(), true);
        }
        s.due("restore(0)", x.restore(0), true);
        s.due("minute 37", x.count(4), 37);
        RatSorters y = Check.of(BUSY);
        y.minutes(37);
        x.minutes(20);
        y.minutes(20);
        s.due("it goes on", x.heap(0), y.heap(0));

        s.says("Promise 37", "false, and nothing happens: no such one, nothing is held.");
        s.refused("nothing is held", x, z -> z.restore(1));
        for (int none : new int[] {-1, 3, LEAST, LARGEST}) {
            s.refused("restore(" + none + ")", x, z -> z.restore(none));
        }
        s.due("what was done can be undone yet", x.undo(), true);
        s.due("minute 37 again", x.count(4), 37);
        Check.read(x, BUSY);
        for (int slot = 0; slot < 3; slot++) {
            int asked = slot;
            s.refused("nothing is held of another text in " + slot, x, z -> z.restore(asked));
        }
    }

    private void count() {
        s.says("Promise 38", "0 GRAINS, 1 HOLES, 2 RATS, 3 MERCHANTS, 4 the minute, 5 grains eaten, 6 COINS, 7 MERCHANTS sold to (bits), 8"
                + " RATS that are HOME (bits), 9 MINUTES the CAT stays yet, 10 QUARRELS, 11 bytes on the tape, 12 things that can be"
                + " undone, 13 TOLD ones, 14 SLOTS that hold something, 15 all grains there are (HEAP, HOLES, carried).");
        RatSorters x = Check.of(STILL + "rat t a h 0 0; rat u b i 0 0; wants 3 a 1; wants 4; wants 5; load = 2; eats = 1;");
        // r and q load 2 each and eat 1; t and u quarrel, then load; r and q drop 1 each.
        x.minutes(2);
        x.sell(2);
        x.send(1, true);
        x.send(3, true);
        x.cat(7);
        x.pour(1, 3);
        x.tell(0, 0, 0, 0);
        x.tell(0, 0, 0, 0);
        x.hold(1);
        x.feed(0, 0, 0, 0, 0);
        int[] due = {2, 3, 4, 3, 2, 4, 5, 4, 10, 7, 2, 20, 6, 2, 1, 8};
        for (int i = 0; i < due.length; i++) {
            int what = i;
            s.still("count(" + what + ")", x, due[what], y -> y.count(what));
        }
        s.due("1 of a in the heap, 1 in h, 1 carried; 4 of b, 1 in i",
                x.heap(0) + 10 * x.hole(0, 0) + 100 * x.rat(2, 2) + 1000 * x.heap(1) + 10000 * x.hole(1, 1), 14111);

        s.says("Promise 38", "NONE for others.");
        for (int none : new int[] {-1, 16, LEAST, LARGEST}) {
            s.none("count(" + none + ")", x, y -> y.count(none));
        }
    }
}
