/** Promises 12 to 19: what is done by hand, and undone. */
public final class HandTest {
    private static final Check CHECK = new Check();
    private static final String TWO = "grain a 10 3; grain b 10 5; hole h 1 a; hole i 2 b;"
            + " rat r a h 8 0; rat s b i 0 0; load = 4;";

    public static void main(String[] args) {
        pour();
        swap();
        teach();
        give();
        send();
        cat();
        sell();
        undoEach();
        undoMany();
        CHECK.end("by hand");
    }

    private static void pour() {
        RatSorters x = Check.of(TWO);
        CHECK.due("pour(0, 1)", x.pour(0, 1), 11);
        CHECK.due("pour(0, 9989)", x.pour(0, 9989), -1);
        CHECK.due("pour(0, 9988)", x.pour(0, 9988), 9999);
        CHECK.due("pour(0, 1) of 9999", x.pour(0, 1), -1);
        CHECK.due("pour(1, 0)", x.pour(1, 0), -1);
        CHECK.due("pour(1, -1)", x.pour(1, -1), -1);
        CHECK.due("pour of the largest int", x.pour(1, Integer.MAX_VALUE), -1);
        CHECK.due("pour(2, 1)", x.pour(2, 1), -1);
        CHECK.due("pour(-1, 1)", x.pour(-1, 1), -1);
        CHECK.due("two things done", x.count(12), 2);
        CHECK.due("heap(1)", x.heap(1), 10);
        // What a rat carries home may make it more than can be poured.
        x.minutes(1);
        CHECK.due("pour what was loaded", x.pour(0, 4), 9999);
        x.send(0, true);
        CHECK.due("more than 9999 lie there", x.heap(0), 10003);
        CHECK.due("pour then", x.pour(0, 1), -1);
    }

    private static void swap() {
        RatSorters x = Check.of(TWO);
        x.minutes(3);
        CHECK.due("swap(0, 0)", x.swap(0, 0), false);
        CHECK.due("swap(0, 2)", x.swap(0, 2), false);
        CHECK.due("swap(-1, 0)", x.swap(-1, 0), false);
        CHECK.due("nothing done", x.count(12), 1);
        CHECK.due("swap(1, 0)", x.swap(1, 0), true);
        CHECK.due("hole(0, 0)", x.hole(0, 0), 0);
        CHECK.due("hole(0, 1)", x.hole(0, 1), 4);
        CHECK.due("hole(1, 0)", x.hole(1, 0), 4);
        CHECK.due("hole(1, 1)", x.hole(1, 1), 0);
        CHECK.due("their grains do not change", x.worth(0), 0);
        x.minutes(1);
        CHECK.due("how far they are does not change", x.rat(0, 1), 1);
    }

    private static void teach() {
        RatSorters x = Check.of(TWO);
        CHECK.due("teach(0, 0)", x.teach(0, 0), false);
        CHECK.due("teach(0, 2)", x.teach(0, 2), false);
        CHECK.due("teach(0, -1)", x.teach(0, -1), false);
        CHECK.due("teach(2, 0)", x.teach(2, 0), false);
        CHECK.due("teach(-1, 0)", x.teach(-1, 0), false);
        x.minutes(1);
        CHECK.due("teach(0, 1)", x.teach(0, 1), true);
        CHECK.due("it knows", x.rat(0, 6), 1);
        CHECK.due("it carries what it did", x.rat(0, 3), 0);
        x.minutes(3);
        CHECK.due("it loads the other", x.rat(0, 3), 1);
        CHECK.due("it dropped the one", x.hole(0, 0), 4);
        x.send(1, true);
        CHECK.due("one that is home", x.teach(1, 0), true);
    }

    private static void give() {
        RatSorters x = Check.of(TWO);
        x.cat(4);
        x.minutes(3);
        CHECK.due("hunger", x.rat(0, 4), 3);
        CHECK.due("give(0, 1, 11)", x.give(0, 1, 11), false);
        CHECK.due("give(0, 1, 0)", x.give(0, 1, 0), false);
        CHECK.due("give(0, 1, -1)", x.give(0, 1, -1), false);
        CHECK.due("give(0, 2, 1)", x.give(0, 2, 1), false);
        CHECK.due("give(0, -1, 1)", x.give(0, -1, 1), false);
        CHECK.due("give(2, 0, 1)", x.give(2, 0, 1), false);
        CHECK.due("give(-1, 0, 1)", x.give(-1, 0, 1), false);
        CHECK.due("give(0, 1, 10)", x.give(0, 1, 10), true);
        CHECK.due("heap(1)", x.heap(1), 0);
        CHECK.due("eaten", x.count(5), 10);
        CHECK.due("hunger 0", x.rat(0, 4), 0);
        CHECK.due("fat 1 more", x.rat(0, 5), 9);
        CHECK.due("give(0, 0, 1)", x.give(0, 0, 1), true);
        CHECK.due("fat 9 at most", x.rat(0, 5), 9);
        x.minutes(2);
        CHECK.due("going", x.give(0, 0, 1), false);
        x.minutes(1);
        CHECK.due("back", x.give(0, 0, 1), false);
        x.send(1, true);
        CHECK.due("home", x.give(1, 0, 1), false);
    }

    private static void send() {
        RatSorters x = Check.of(TWO);
        CHECK.due("send(0, false)", x.send(0, false), false);
        CHECK.due("send(2, true)", x.send(2, true), false);
        CHECK.due("send(-1, true)", x.send(-1, true), false);
        x.minutes(1);
        CHECK.due("heap(0)", x.heap(0), 6);
        CHECK.due("send(0, true)", x.send(0, true), true);
        CHECK.due("what it carried falls", x.heap(0), 10);
        CHECK.due("it carries nothing", x.rat(0, 2), 0);
        CHECK.due("home", x.rat(0, 0), 3);
        CHECK.due("count(8)", x.count(8), 1);
        CHECK.due("send(0, true) again", x.send(0, true), false);
        x.minutes(5);
        CHECK.due("it stays home", x.heap(0), 10);
        CHECK.due("it is not hungrier", x.rat(0, 4), 1);
        CHECK.due("send(0, false) now", x.send(0, false), true);
        CHECK.due("at the heap", x.rat(0, 0), 0);
        CHECK.due("nothing fell again", x.heap(0), 10);
        x.minutes(1);
        CHECK.due("it loads", x.heap(0), 6);
        x.minutes(1);
        x.send(0, true);
        x.send(0, false);
        CHECK.due("from its way back to the heap", x.rat(0, 1), 0);
        CHECK.due("nothing to fall", x.heap(0), 6);
    }

    private static void cat() {
        RatSorters x = Check.of(TWO);
        CHECK.due("cat(0)", x.cat(0), -1);
        CHECK.due("cat(100)", x.cat(100), -1);
        CHECK.due("cat(-1)", x.cat(-1), -1);
        CHECK.due("cat(99)", x.cat(99), 99);
        for (int i = 2; i <= 10; i++) {
            CHECK.due("cat(99) more", x.cat(99), 99 * i);
        }
        CHECK.due("cat(10)", x.cat(10), -1);
        CHECK.due("cat(9)", x.cat(9), 999);
        CHECK.due("cat(1)", x.cat(1), -1);
        CHECK.due("eleven things done", x.count(12), 11);
        x.minutes(1);
        CHECK.due("a minute less", x.cat(1), 999);
    }

    private static void sell() {
        RatSorters x = Check.of("grain a 20 1; grain b 9 1; hole h 1 b; hole i 1 a; hole j 1 a; rat r a i 0 0;"
                + " rat s a j 0 0; rat t a h 0 0; load = 4; wants 7 a 5; wants 40 a 4 b 1; wants 3; wants 9 a 3;");
        CHECK.due("not enough", x.sell(0), false);
        CHECK.due("sell(4)", x.sell(4), false);
        CHECK.due("sell(-1)", x.sell(-1), false);
        x.minutes(4);
        CHECK.due("hole(0, 0)", x.hole(0, 0), 4);
        CHECK.due("hole(1, 0)", x.hole(1, 0), 4);
        CHECK.due("hole(2, 0)", x.hole(2, 0), 4);
        CHECK.due("sell(0)", x.sell(0), true);
        CHECK.due("the first of them first", x.hole(1, 0), 0);
        CHECK.due("then the next", x.hole(2, 0), 3);
        CHECK.due("not out of others", x.hole(0, 0), 4);
        CHECK.due("coins", x.count(6), 7);
        CHECK.due("sold to", x.count(7), 1);
        CHECK.due("sold to already", x.sell(0), false);
        CHECK.due("one of two is missing", x.sell(1), false);
        CHECK.due("who wants nothing", x.sell(2), true);
        CHECK.due("just enough", x.sell(3), true);
        CHECK.due("coins in all", x.count(6), 19);
        CHECK.due("sold to in all", x.count(7), 13);
        CHECK.due("all gone", x.hole(2, 0), 0);
    }

    private static void undoEach() {
        RatSorters x = Check.of(TWO + "wants 6 a 1;");
        x.minutes(3);
        x.pour(0, 5);
        x.swap(0, 1);
        x.teach(0, 1);
        x.send(1, true);
        x.swap(0, 1);
        x.sell(0);
        x.cat(3);
        x.minutes(2);
        x.give(0, 0, 2);
        int[] things = {10, 9, 8, 7, 6, 5, 4, 3, 2, 1, 0};
        CHECK.due("things done", x.count(12), 10);
        CHECK.due("give", x.undo(), true);
        CHECK.due("give: heap", x.heap(0), 11);
        CHECK.due("give: eaten", x.count(5), 0);
        CHECK.due("minutes", x.undo(), true);
        CHECK.due("minutes: which", x.count(4), 3);
        CHECK.due("minutes: cat", x.count(9), 3);
        CHECK.due("cat", x.undo(), true);
        CHECK.due("cat: none", x.count(9), 0);
        CHECK.due("sell", x.undo(), true);
        CHECK.due("sell: coins", x.count(6), 0);
        CHECK.due("sell: sold to", x.count(7), 0);
        CHECK.due("sell: hole", x.hole(0, 0), 4);
        CHECK.due("swap", x.undo(), true);
        CHECK.due("swap: hole", x.hole(1, 0), 4);
        CHECK.due("send", x.undo(), true);
        CHECK.due("send: where", x.rat(1, 0), 2);
        CHECK.due("teach", x.undo(), true);
        CHECK.due("teach: knows", x.rat(0, 6), 0);
        CHECK.due("swap", x.undo(), true);
        CHECK.due("swap: hole again", x.hole(0, 0), 4);
        CHECK.due("pour", x.undo(), true);
        CHECK.due("pour: heap", x.heap(0), 6);
        CHECK.due("things left", x.count(12), things[9]);
        CHECK.due("minutes", x.undo(), true);
        CHECK.due("minutes: heap", x.heap(0), 10);
        CHECK.due("none", x.undo(), false);
        CHECK.due("none: minute", x.count(4), 0);
    }

    private static void undoMany() {
        RatSorters x = Check.of(TWO);
        for (int i = 1; i <= 45; i++) {
            x.cat(1);
            CHECK.due("things that can be undone", x.count(12), Math.min(i, 40));
        }
        x.minutes(0);
        x.cat(0);
        CHECK.due("nothing more was done", x.count(12), 40);
        for (int i = 0; i < 40; i++) {
            CHECK.due("undo " + i, x.undo(), true);
            CHECK.due("cat of " + i, x.count(9), 44 - i);
        }
        CHECK.due("the last 40 can be", x.undo(), false);
        CHECK.due("cat stays", x.count(9), 5);
        x.cat(1);
        CHECK.due("one again", x.undo(), true);
        CHECK.due("none again", x.undo(), false);
    }
}
