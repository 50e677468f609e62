import java.util.ArrayList;
import java.util.List;

/** The sentences on what is done by hand, and promises 12 to 19. */
final class EdgesByHand {
    private static final String TERMS = "Terms";
    private static final int LEAST = Integer.MIN_VALUE;
    private static final int LARGEST = Integer.MAX_VALUE;
    private static final String TWO = "grain a 10 3; grain b 10 5; hole h 1 a; hole i 2 b;"
            + " rat r a h 8 0; rat s b i 0 0; load = 4; wants 6 a 1;";

    private final Sentences s;

    private EdgesByHand(Sentences s) {
        this.s = s;
    }

    static void all(Sentences s) {
        EdgesByHand t = new EdgesByHand(s);
        t.poured();
        t.swapped();
        t.taughtOne();
        t.given();
        t.sent();
        t.catMore();
        t.sold();
        t.pour();
        t.swap();
        t.teach();
        t.give();
        t.send();
        t.cat();
        t.sell();
        t.undo();
        t.undoNone();
    }

    private void poured() {
        s.says(TERMS, "By hand: POUR;");
        RatSorters x = Check.of(TWO);
        x.pour(1, 5);
        s.due("it lies there", x.heap(1), 15);
        s.due("of no other", x.heap(0), 10);
        s.due("all grains", x.count(15), 25);
        x.minutes(1);
        s.due("it is loaded of", x.heap(1), 11);
    }

    private void swapped() {
        s.says(TERMS, "SWAP two HOLES: all that is in them changes place (what is told of them does not);");
        RatSorters x = Check.of("grain a 9 3; grain b 9 5; hole h 1 a; hole i 4 b; hole j 2 b;"
                + " rat r a h 0 0; rat s b h 0 0; rat t b j 0 0;");
        // h: 5 of a and 5 of b, j: 4 of b.
        x.minutes(4);
        s.due("h, a", x.hole(0, 0), 5);
        s.due("h, b", x.hole(0, 1), 5);
        s.due("j, b", x.hole(2, 1), 4);
        x.swap(2, 0);
        int[][] due = {{0, 4}, {0, 0}, {5, 5}};
        for (int hole = 0; hole < 3; hole++) {
            for (int grain = 0; grain < 2; grain++) {
                s.due("swapped: hole(" + hole + ", " + grain + ")", x.hole(hole, grain), due[hole][grain]);
            }
        }
        s.due("j is of b yet, 5 less twice 5", x.worth(2), 0);
        s.due("j is of b yet: pure", x.pure(2, false), 1);
        s.due("h is of a yet", x.pure(0, false), 0);
        s.due("a rat goes where it did", x.rat(0, 8), 0);
        x.minutes(1);
        s.due("what is on its way is dropped where it goes", x.hole(0, 0), 4);
        s.due("h is as far as it was", x.rat(0, 1), 1);
        x.swap(0, 1);
        s.due("with an empty one", x.hole(1, 1), 4);
        s.due("that is empty then", x.hole(0, 0) + x.hole(0, 1), 0);
    }

    private void taughtOne() {
        s.says(TERMS, "TEACH: a RAT KNOWS another GRAIN from now on;");
        RatSorters x = Check.of(TWO);
        x.minutes(1);
        x.teach(0, 1);
        s.due("it carries what it did", x.rat(0, 3), 0);
        x.minutes(2);
        s.due("it dropped that", x.hole(0, 0), 4);
        x.minutes(1);
        s.due("then it loads the other", x.rat(0, 3), 1);
        s.due("and goes to its hole as before", x.rat(0, 8), 0);
        x.send(1, true);
        x.teach(1, 0);
        s.due("one that is home", x.rat(1, 6), 0);
    }

    private void given() {
        s.says(TERMS, "GIVE grains from the HEAP to a RAT AT THE HEAP (all are eaten; HUNGER 0, FAT 1 more, 9 at most);");
        RatSorters x = Check.of(TWO);
        x.cat(4);
        x.minutes(3);
        s.due("hunger", x.rat(0, 4), 3);
        x.give(0, 1, 10);
        s.due("from the heap", x.heap(1), 0);
        s.due("all are eaten", x.count(5), 10);
        s.due("hunger 0", x.rat(0, 4), 0);
        s.due("the other one's hunger", x.rat(1, 4), 3);
        s.due("fat 1 more", x.rat(0, 5), 9);
        s.due("it carries nothing", x.rat(0, 2), 0);
        x.give(0, 0, 1);
        s.due("fat 9 at most", x.rat(0, 5), 9);
        x.give(1, 0, 3);
        s.due("1 more, however many", x.rat(1, 5), 1);
        s.due("all that were given are eaten", x.count(5), 14);
    }

    private void sent() {
        s.says(TERMS, "SEND a RAT HOME (what it carries falls into the HEAP), or have it come back (AT THE HEAP);");
        RatSorters x = Check.of(TWO);
        x.minutes(1);
        x.teach(0, 1);
        x.send(0, true);
        s.due("what it carried falls, of the grain it was", x.heap(0), 10);
        s.due("none of what it knows", x.heap(1), 6);
        s.due("it carries nothing", x.rat(0, 2), 0);
        x.minutes(9);
        s.due("it stays home", x.rat(0, 0), 3);
        x.send(0, false);
        s.due("at the heap", x.rat(0, 0), 0);
        s.due("at the heap: minutes", x.rat(0, 1), 0);
        s.due("nothing falls again", x.heap(0), 10);
        RatSorters back = Check.of(TWO);
        back.minutes(2);
        back.send(0, true);
        s.due("from its way back nothing falls", back.heap(0), 6);
        back.send(0, false);
        back.minutes(1);
        s.due("it loads at once", back.heap(0), 2);
        RatSorters full = Check.of("grain a 9999 1; hole h 1 a; rat r a h 0 0;");
        full.minutes(1);
        full.pour(0, 5);
        full.send(0, true);
        s.due("more than can be poured", full.heap(0), 10004);
    }

    private void catMore() {
        s.says(TERMS, "CAT for n MINUTES more;");
        RatSorters x = Check.of(TWO);
        x.cat(3);
        x.cat(2);
        s.due("3 and 2", x.count(9), 5);
        x.minutes(5);
        s.due("none loaded for 5 minutes", x.heap(0), 10);
        x.minutes(1);
        s.due("then they load", x.heap(0), 6);
    }

    private void sold() {
        s.says(TERMS, "SELL to a MERCHANT: what is wanted goes out of HOLES whose GRAIN it is (the first of them first), COINS come;"
                + " each MERCHANT once.");
        RatSorters x = Check.of("grain a 20 1; grain b 9 1; hole h 1 b; hole i 1 a; hole j 1 a; rat r a i 0 0;"
                + " rat q a j 0 0; rat t a h 0 0; load = 4; wants 7 a 5; wants 9 a 2;");
        x.minutes(4);
        for (int hole = 0; hole < 3; hole++) {
            s.due("4 of a in " + hole, x.hole(hole, 0), 4);
        }
        s.due("5 of a", x.sell(0), true);
        int[] left = {4, 0, 3};
        for (int hole = 0; hole < 3; hole++) {
            s.due("left in " + hole, x.hole(hole, 0), left[hole]);
        }
        s.due("coins", x.count(6), 7);
        s.due("once", x.sell(0), false);
        s.due("2 of a", x.sell(1), true);
        s.due("coins of both", x.count(6), 16);
        s.due("both are sold to", x.count(7), 3);
        s.due("left of all", x.hole(2, 0), 1);
        s.due("what is sold is gone", x.count(15), 29 - 7);
    }

    private void pour() {
        s.says("Promise 12", "POUR n (1 and more; 9999 of a GRAIN in the HEAP at most): how many lie there;");
        RatSorters x = Check.of(TWO);
        s.due("pour(0, 1)", x.pour(0, 1), 11);
        s.due("pour(0, 9988)", x.pour(0, 9988), 9999);
        s.due("heap(0)", x.heap(0), 9999);
        s.due("9999 of each", x.pour(1, 9989), 9999);

        s.says("Promise 12", "NONE, and nothing happens: no such ones, more than 9999 then.");
        s.none("pour(0, 1) to 9999", x, y -> y.pour(0, 1));
        RatSorters z = Check.of(TWO);
        for (int n : new int[] {0, -1, LEAST, 9990, 10000, LARGEST}) {
            s.none("pour(0, " + n + ") to 10", z, y -> y.pour(0, n));
        }
        for (int grain : new int[] {-1, 2, 6, LEAST, LARGEST}) {
            s.none("pour(" + grain + ", 1)", z, y -> y.pour(grain, 1));
        }
        s.none("of nothing", new RatSorters(), y -> y.pour(0, 1));
        // What fell from a rat that was sent home makes it more than 9999.
        RatSorters full = Check.of("grain a 9999 1; hole h 1 a; rat r a h 0 0;");
        full.minutes(1);
        s.none("one too many", full, y -> y.pour(0, 6));
        s.due("what was loaded", full.pour(0, 5), 9999);
        full.send(0, true);
        s.none("to 10004", full, y -> y.pour(0, 1));
        s.none("to 10004, the largest int", full, y -> y.pour(0, LARGEST));
    }

    private void swap() {
        s.says("Promise 13", "SWAP: true;");
        RatSorters x = Check.of(TWO);
        x.minutes(3);
        s.due("swap(0, 1)", x.swap(0, 1), true);
        s.due("hole(0, 1)", x.hole(0, 1), 4);
        s.due("swap(1, 0)", x.swap(1, 0), true);
        s.due("hole(0, 0)", x.hole(0, 0), 4);
        s.due("of empty ones", Check.of(TWO).swap(0, 1), true);

        s.says("Promise 13", "false, and nothing happens: no such HOLES, one and the same.");
        for (int none : new int[] {-1, 2, 6, LEAST, LARGEST}) {
            s.refused("swap(0, " + none + ")", x, y -> y.swap(0, none));
            s.refused("swap(" + none + ", 0)", x, y -> y.swap(none, 0));
            s.refused("swap(" + none + ", " + none + ")", x, y -> y.swap(none, none));
        }
        s.refused("swap(0, 0)", x, y -> y.swap(0, 0));
        s.refused("swap(1, 1)", x, y -> y.swap(1, 1));
    }

    private void teach() {
        s.says("Promise 14", "TEACH: true;");
        RatSorters x = Check.of(TWO);
        s.due("teach(0, 1)", x.teach(0, 1), true);
        s.due("it knows", x.rat(0, 6), 1);
        s.due("the other one knows what it did", x.rat(1, 6), 1);
        s.due("teach(0, 0)", x.teach(0, 0), true);
        s.due("it knows the one again", x.rat(0, 6), 0);

        s.says("Promise 14", "false, and nothing happens: it KNOWS that, no such ones.");
        s.refused("teach(0, 0) again", x, y -> y.teach(0, 0));
        s.refused("teach(1, 1)", x, y -> y.teach(1, 1));
        for (int none : new int[] {-1, 2, 6, 8, LEAST, LARGEST}) {
            s.refused("teach(0, " + none + ")", x, y -> y.teach(0, none));
            s.refused("teach(" + none + ", 0)", x, y -> y.teach(none, 0));
        }
    }

    private void give() {
        s.says("Promise 15", "GIVE n (1 and more): true;");
        RatSorters x = Check.of(TWO);
        s.due("give(0, 1, 1)", x.give(0, 1, 1), true);
        s.due("heap(1)", x.heap(1), 9);
        s.due("give(1, 1, 9), all", x.give(1, 1, 9), true);
        s.due("heap(1) then", x.heap(1), 0);

        s.says("Promise 15", "false, and nothing happens: not so many in the HEAP, it is not AT THE HEAP, no such ones.");
        s.refused("of none", x, y -> y.give(0, 1, 1));
        for (int n : new int[] {11, 9999, LARGEST, 0, -1, LEAST}) {
            s.refused("give(0, 0, " + n + ") of 10", x, y -> y.give(0, 0, n));
        }
        for (int none : new int[] {-1, 2, 6, 8, LEAST, LARGEST}) {
            s.refused("give(0, " + none + ", 1)", x, y -> y.give(0, none, 1));
            s.refused("give(" + none + ", 0, 1)", x, y -> y.give(none, 0, 1));
        }
        x.minutes(1);
        s.refused("going", x, y -> y.give(0, 0, 1));
        x.minutes(1);
        s.refused("back", x, y -> y.give(0, 0, 1));
        x.minutes(1);
        x.send(0, true);
        s.refused("home", x, y -> y.give(0, 0, 1));
        x.send(0, false);
        s.due("at the heap again", x.give(0, 0, 1), true);
    }

    private void send() {
        s.says("Promise 16", "SEND HOME (or have it come back): true;");
        RatSorters x = Check.of(TWO);
        s.due("send(1, true)", x.send(1, true), true);
        s.due("home", x.rat(1, 0), 3);
        s.due("send(1, false)", x.send(1, false), true);
        s.due("at the heap", x.rat(1, 0), 0);
        x.minutes(1);
        s.due("send of one that is going", x.send(0, true), true);

        s.says("Promise 16", "false, and nothing happens: it is so, no such RAT.");
        s.refused("home already", x, y -> y.send(0, true));
        s.refused("not home: going", x, y -> y.send(1, false));
        x.minutes(2);
        s.refused("not home: back", x, y -> y.send(1, false));
        x.minutes(2);
        s.refused("not home: at the heap", x, y -> y.send(1, false));
        for (int none : new int[] {-1, 2, 8, LEAST, LARGEST}) {
            s.refused("send(" + none + ", true)", x, y -> y.send(none, true));
            s.refused("send(" + none + ", false)", x, y -> y.send(none, false));
        }
    }

    private void cat() {
        s.says("Promise 17", "CAT for n MINUTES more (1 .. 99; 999 at most): for how many;");
        RatSorters x = Check.of(TWO);
        s.due("cat(1)", x.cat(1), 1);
        for (int i = 1; i <= 10; i++) {
            s.due("cat(99) more", x.cat(99), 1 + 99 * i);
        }
        s.due("cat(8) more", x.cat(8), 999);
        s.due("count(9)", x.count(9), 999);

        s.says("Promise 17", "NONE, and nothing happens: no such n, more than 999 then.");
        s.none("one more than 999", x, y -> y.cat(1));
        x.minutes(50);
        s.none("51 more than 949", x, y -> y.cat(51));
        s.due("50 more than 949", x.cat(50), 999);
        RatSorters z = Check.of(TWO);
        for (int none : new int[] {0, -1, 100, 999, LEAST, LARGEST}) {
            s.none("cat(" + none + ")", z, y -> y.cat(none));
        }
    }

    private void sell() {
        s.says("Promise 18", "SELL: true;");
        RatSorters x = Check.of("grain a 20 1; grain b 9 1; hole h 1 a; hole i 1 b; rat r a h 0 0; rat q b h 0 0;"
                + " load = 4; wants 7 a 4; wants 40 a 1 b 1; wants 3; wants 9 a 5;");
        s.due("who wants nothing", x.sell(2), true);
        s.due("coins", x.count(6), 3);
        s.due("sold to", x.count(7), 4);
        x.minutes(2);
        RatSorters y = Check.of(TWO);
        y.minutes(2);
        s.due("more than enough", y.sell(0), true);
        RatSorters six = Check.of("grain a 1 1; grain b 1 1; grain c 1 1; grain d 1 1; grain e 1 1; grain f 5 1; hole h 1 a;"
                + " hole i 1 b; hole j 1 c; hole k 1 d; hole l 1 e; hole m 1 f; rat r f m 0 0;"
                + " wants 5; wants 6 f 5; wants 7 a 1; wants 8 a 1; wants 9;");
        six.minutes(2);
        s.due("the first of five, who wants none of six", six.sell(0), true);
        s.due("the next, who wants the last of six", six.sell(1), true);
        s.due("out of the last of six", six.hole(5, 5), 0);
        s.due("the last of five", six.sell(4), true);
        s.due("the three of them", six.count(7), 19);

        s.says("Promise 18", "false, and nothing happens: not enough, sold to already, no such MERCHANT.");
        s.refused("one too few", x, z -> z.sell(3));
        s.refused("enough of one, in the wrong hole of the other", x, z -> z.sell(1));
        s.refused("sold to already", x, z -> z.sell(2));
        for (int none : new int[] {-1, 4, 5, 32, LEAST, LARGEST}) {
            s.refused("sell(" + none + ")", x, z -> z.sell(none));
        }
        s.due("just enough", x.sell(0), true);
        s.due("all is gone", x.hole(0, 0), 0);
        s.refused("none is left", x, z -> z.sell(1));
        s.refused("of nothing", new RatSorters(), z -> z.sell(0));
    }

    /** Does the i-th of the eight things. */
    private void doThing(RatSorters x, int i) {
        boolean done = false;
        switch (i) {
            case 0 -> done = x.minutes(3) > 0;
            case 1 -> done = x.pour(0, 2) > 0;
            case 2 -> done = x.swap(0, 1);
            case 3 -> done = x.teach(1, 0);
            case 4 -> done = x.give(0, 0, 1);
            case 5 -> done = x.send(1, true);
            case 6 -> done = x.cat(4) > 0;
            default -> done = x.sell(0);
        }
        s.due("thing " + i + " is done", done, true);
    }

    private void undo() {
        s.says("Promise 19", "The last thing done (minutes, pour, swap, teach, give, send, cat, sell) is undone: true;");
        RatSorters x = Check.of(TWO.replace("a 1;", "b 1;") + "hole j 1 b;");
        List<String> seen = new ArrayList<>();
        int[] order = {0, 1, 4, 7, 2, 3, 5, 6, 0};
        Check.read(x, "odd 0;");
        x.minutes(3);
        for (int i : order) {
            seen.add(Sentences.seen(x));
            doThing(x, i);
            s.due("thing " + i + " can be seen", Sentences.seen(x).equals(seen.get(seen.size() - 1)), false);
        }
        doNoThing(x);
        s.due("nothing more was done", x.count(12), order.length + 1);
        for (int i = order.length - 1; i >= 0; i--) {
            s.due("undo of thing " + order[i], x.undo(), true);
            s.due("as ahead of thing " + order[i] + ", the slot aside", sameBut14(Sentences.seen(x), seen.get(i)), true);
        }
        s.due("the slot holds it yet", x.count(14), 1);
        s.due("undo of the first minutes", x.undo(), true);
        s.due("minute 0", x.count(4), 0);
        s.due("none", x.undo(), false);
        RatSorters y = Check.of(TWO);
        y.pour(0, 1);
        y.undo();
        y.pour(0, 2);
        y.pour(0, 3);
        y.undo();
        s.due("undone, done, undone", y.heap(0), 12);
        s.due("one is left", y.count(12), 1);
    }

    /** What is no thing done: refused calls, what would be, what is told, held, fed, read in vain. */
    private static void doNoThing(RatSorters x) {
        x.minutes(0);
        x.minutes(601);
        x.pour(0, 0);
        x.swap(0, 0);
        x.teach(0, 2);
        x.give(0, 0, 0);
        x.send(0, false);
        x.cat(0);
        x.sell(1);
        x.then(600, 0);
        x.taught(3, 9);
        x.catAt(9, 0);
        x.tell(0, 0, 0, 0);
        x.jokes(1, -1);
        x.forget();
        x.hold(0);
        x.hold(3);
        x.restore(1);
        Check.read(x, "odd 0;");
    }

    /** Whether two are seen alike, but for how many slots hold something. */
    private static boolean sameBut14(String one, String other) {
        String[] a = one.split(" ");
        String[] b = other.split(" ");
        boolean same = a.length == b.length;
        for (int i = 0; same && i < a.length; i++) {
            same = i == 14 || a[i].equals(b[i]);
        }
        return same;
    }

    private void undoNone() {
        s.says("Promise 19", "false: there is none (the last 40 can be).");
        RatSorters x = Check.of(TWO);
        s.refused("none yet", x, RatSorters::undo);
        for (int many = 39; many <= 41; many++) {
            RatSorters y = Check.of(TWO);
            for (int i = 0; i < many; i++) {
                y.cat(1);
            }
            s.due(many + " things", y.count(12), Math.min(40, many));
            for (int i = 1; i <= Math.min(40, many); i++) {
                s.due("undo " + i + " of " + many, y.undo(), true);
                s.due("undo " + i + " of " + many + ": the cat", y.count(9), many - i);
            }
            s.refused("no more of " + many, y, RatSorters::undo);
            y.cat(7);
            s.due("one again", y.undo(), true);
            s.refused("none again", y, RatSorters::undo);
        }
        for (int i = 1; i <= 100; i++) {
            x.cat(1);
        }
        x.undo();
        x.undo();
        x.cat(50);
        s.due("one less of 40", x.count(12), 39);
        for (int i = 0; i < 39; i++) {
            s.due("undo " + i, x.undo(), true);
        }
        s.due("as 60 left it", x.count(9), 60);
        s.refused("61 were too many", x, RatSorters::undo);
        x.cat(1);
        Check.read(x, "odd 0;");
        s.due("a text with a fault changes nothing", x.undo(), true);
        x.cat(1);
        x.read();
        s.refused("nothing of the text ahead", x, RatSorters::undo);
    }
}
