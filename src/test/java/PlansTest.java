/** Promises 21 to 32: what would be. */
public final class PlansTest {
    private static final Check CHECK = new Check();
    private static final String HOUSE = "grain rye 10 3; grain pea 4 5; hole one 1 rye; hole two 2 pea;"
            + " rat ann rye one 0 7; rat bob pea two 0 4; rat cid rye two 3 1; load = 4; odd 3;";

    public static void main(String[] args) {
        clean();
        then();
        lies();
        hire();
        hireFromNow();
        taught();
        taughtAgain();
        bestSwap();
        missed();
        catAt();
        starves();
        mean();
        sales();
        nothingHappens();
        CHECK.end("plans");
    }

    private static void clean() {
        RatSorters x = Check.of(HOUSE);
        CHECK.due("clean()", x.clean(), 5);
        x.minutes(2);
        CHECK.due("clean() later", x.clean(), 3);
        x.minutes(3);
        CHECK.due("clean() then", x.clean(), 0);
        // One grain a way of 61 minutes: the tenth is dropped behind 9 * 61 + 31 = 580, the eleventh behind 641.
        CHECK.due("just in time", Check.of("grain g 10 1; hole h 30 g; rat r g h 0 0; load = 1;").clean(), 580);
        CHECK.due("too late", Check.of("grain g 11 1; hole h 30 g; rat r g h 0 0; load = 1;").clean(), -2);
        // Four a way of 3 minutes: 200 ways end behind 199 * 3 + 2 = 599 MINUTES; one waits a minute more.
        RatSorters edge = Check.of("grain g 800 1; hole h 1 g; rat r g h 0 0; load = 4;");
        CHECK.due("599", edge.clean(), 599);
        edge.cat(1);
        CHECK.due("600", edge.clean(), 600);
        edge.cat(1);
        CHECK.due("601", edge.clean(), -2);
        CHECK.due("lamp out", Check.of("grain g 1 1; hole h 1 g; rat r g h 0 0; lamp 0; odd 99;").clean(), 99);
    }

    private static void then() {
        RatSorters x = Check.of(HOUSE);
        int[] now = {0, 0, 14, 0, 0, 0};
        int[] five = {18, 0, 0, 10, 4, 1};
        for (int what = 0; what <= 5; what++) {
            CHECK.due("then(0, " + what + ")", x.then(0, what), now[what]);
            CHECK.due("then(5, " + what + ")", x.then(5, what), five[what]);
        }
        x.minutes(5);
        CHECK.due("so far: quarrels", x.then(0, 5), 1);
        x.pour(0, 3);
        x.teach(0, 1);
        x.teach(2, 1);
        CHECK.due("they eat", x.then(600, 1), 3);
        CHECK.due("then(600, 2)", x.then(600, 2), 0);
        CHECK.due("then(601, 0)", x.then(601, 0), -1);
        CHECK.due("then(-1, 0)", x.then(-1, 0), -1);
        CHECK.due("then(0, 6)", x.then(0, 6), -1);
        CHECK.due("then(0, -1)", x.then(0, -1), -1);
    }

    private static void lies() {
        RatSorters x = Check.of(HOUSE);
        CHECK.due("lies(5, 1, 0)", x.lies(5, 1, 0), 4);
        CHECK.due("lies(5, 1, 1)", x.lies(5, 1, 1), 4);
        CHECK.due("lies(5, 0, 0)", x.lies(5, 0, 0), 6);
        CHECK.due("lies(1, -1, 0)", x.lies(1, -1, 0), 6);
        CHECK.due("lies(1, 0, 0)", x.lies(1, 0, 0), 0);
        CHECK.due("lies(600, 0, 0)", x.lies(600, 0, 0), 6);
        CHECK.due("lies(601, 0, 0)", x.lies(601, 0, 0), -1);
        CHECK.due("lies(-1, 0, 0)", x.lies(-1, 0, 0), -1);
        CHECK.due("lies(0, 2, 0)", x.lies(0, 2, 0), -1);
        CHECK.due("lies(0, -2, 0)", x.lies(0, -2, 0), -1);
        CHECK.due("lies(0, 0, 2)", x.lies(0, 0, 2), -1);
        CHECK.due("lies(0, -1, -1)", x.lies(0, -1, -1), -1);
    }

    private static void hire() {
        RatSorters x = Check.of(HOUSE);
        // From minute 8 on bob has eaten the last of the rye; cid alone eats the peas by and by.
        int[][] due = {{4, -2, -2}, {5, 12, 7}, {8, 11, 3}, {9, 5, 6}, {13, 5, 6}, {300, 1, 4}};
        for (int[] d : due) {
            CHECK.due("hire(" + d[0] + ", 0)", x.hire(d[0], 0), d[1]);
            CHECK.due("hire(" + d[0] + ", 1)", x.hire(d[0], 1), d[2]);
        }
        CHECK.due("hire(0, 0)", x.hire(0, 0), -1);
        CHECK.due("hire(301, 0)", x.hire(301, 0), -1);
        CHECK.due("hire(5, 2)", x.hire(5, 2), -1);
        CHECK.due("hire(5, -1)", x.hire(5, -1), -1);
        // Of alike fees the fewest rats, then the least bits.
        String alike = "grain a 5 1; grain b 0 1; hole h 1 a; rat p b h 0 0; rat q a h 0 3; rat r a h 0 3; rat s b h 0 0;";
        CHECK.due("alike: fees", Check.of(alike).hire(9, 0), 3);
        CHECK.due("alike: rats", Check.of(alike).hire(9, 1), 2);
        CHECK.due("nothing to do", Check.of("grain a 0 1; hole h 1 a; rat p a h 0 0;").hire(1, 1), 0);
    }

    private static void hireFromNow() {
        // What those not hired carry falls into the heap; one that is home comes back; all that any rat knows counts.
        RatSorters x = Check.of("grain a 5 1; grain b 5 1; hole h 3 a; rat p a h 0 9; rat q a h 0 1; rat r b h 0 2;");
        x.minutes(1);
        x.send(1, true);
        CHECK.due("soon: p and r are on their way", x.hire(2, 1), -2);
        CHECK.due("there: p and r", x.hire(3, 1), 5);
        CHECK.due("there: fees", x.hire(3, 0), 11);
        CHECK.due("later: q and r", x.hire(4, 1), 6);
        CHECK.due("later: fees", x.hire(4, 0), 3);
        x.teach(2, 0);
        CHECK.due("b is known by none", x.hire(4, 1), 2);
        x.send(2, true);
        CHECK.due("r at home knows a", x.hire(4, 1), 2);
        x.teach(2, 1);
        CHECK.due("r at home knows b", x.hire(4, 1), 6);
    }

    private static void taught() {
        RatSorters x = Check.of(HOUSE);
        CHECK.due("taught(4, 5)", x.taught(4, 5), 44);
        CHECK.due("taughtAt(4, 5, 0)", x.taughtAt(4, 5, 0), 1);
        CHECK.due("taughtAt(4, 5, 1)", x.taughtAt(4, 5, 1), -1);
        CHECK.due("taughtAt(4, 5, -1)", x.taughtAt(4, 5, -1), -1);
        CHECK.due("taught(0, 5)", x.taught(0, 5), -1);
        CHECK.due("taught(8, 5)", x.taught(8, 5), -1);
        CHECK.due("taught(12, 5)", x.taught(12, 5), -1);
        CHECK.due("taught(-1, 5)", x.taught(-1, 5), -1);
        CHECK.due("taught(1, 0)", x.taught(1, 0), -1);
        CHECK.due("taught(1, 301)", x.taught(1, 301), -1);
        CHECK.due("taughtAt(1, 301, 0)", x.taughtAt(1, 301, 0), -1);
        CHECK.due("taughtAt(0, 5, 0)", x.taughtAt(0, 5, 0), -1);
        CHECK.due("of nothing", new RatSorters().taught(1, 5), -1);
        StringBuilder five = new StringBuilder("grain a 9 1; grain b 9 1; hole h 1 a; hole i 1 b;");
        for (char c = 'p'; c <= 't'; c++) {
            five.append("rat ").append(c).append(" a i 0 0;");
        }
        RatSorters many = Check.of(five.toString());
        CHECK.due("five are too many", many.taught(31, 5), -1);
        CHECK.due("five are too many, i", many.taughtAt(31, 5, 0), -1);
        fourAreTaught();
    }

    private static void fourAreTaught() {
        // One rat loads of a grain in a minute: behind 2 it may be s that brings b, behind 3 it is q, then s.
        RatSorters x = Check.of("grain a 10 1; grain b 10 1; hole h 1 a; hole i 1 b;"
                + " rat p a h 0 0; rat q a i 0 0; rat r a h 0 0; rat s a i 0 0;");
        int[][] due = {{2, 10, 0, 0, 0, 1}, {3, 20, 0, 1, 0, 1}};
        for (int[] d : due) {
            CHECK.due("four: worth behind " + d[0], x.taught(15, d[0]), d[1]);
            for (int i = 0; i < 4; i++) {
                CHECK.due("four: rat " + i + " behind " + d[0], x.taughtAt(15, d[0], i), d[2 + i]);
            }
        }
    }

    private static void taughtAgain() {
        // Behind 2 minutes nothing more than one load each lies in its hole: p to h, q to i.
        RatSorters x = Check.of("grain a 5 1; grain b 5 2; grain c 5 3; hole h 1 b; hole i 1 c; rat p a h 0 0; rat q a i 0 0;");
        CHECK.due("both: worth", x.taught(3, 2), 25);
        CHECK.due("both: p", x.taughtAt(3, 2, 0), 1);
        CHECK.due("both: q", x.taughtAt(3, 2, 1), 2);
        CHECK.due("q alone: worth", x.taught(2, 2), 15);
        CHECK.due("q alone: what", x.taughtAt(2, 2, 0), 2);
        CHECK.due("too soon: all alike, the first", x.taughtAt(3, 1, 0), 0);
        CHECK.due("too soon: the first of q", x.taughtAt(3, 1, 1), 0);
        CHECK.due("too soon: worth", x.taught(3, 1), 0);
        CHECK.due("both again: q", x.taughtAt(3, 2, 1), 2);
        x.pour(2, 1);
        x.give(0, 1, 5);
        CHECK.due("without b: p, of alike ones the first that does no harm", x.taughtAt(3, 2, 0), 0);
        CHECK.due("without b: worth", x.taught(3, 2), 15);
        x.undo();
        CHECK.due("undone: p", x.taughtAt(3, 2, 0), 1);
        x.hold(0);
        x.minutes(1);
        CHECK.due("a minute later p is on its way with a, q is not", x.taught(3, 2), 15);
        x.restore(0);
        CHECK.due("restored: worth", x.taught(3, 2), 25);
        CHECK.due("p alone: worth", x.taught(1, 2), 10);
        x.give(0, 1, 5);
        CHECK.due("p alone, without b: worth", x.taught(1, 2), 0);
        CHECK.due("p alone, without b: what", x.taughtAt(1, 2, 0), 0);
        Check.read(x, "grain a 5 7; hole h 1 a; rat p a h 0 0;");
        CHECK.due("of another text: worth", x.taught(1, 2), 35);
    }

    private static void bestSwap() {
        RatSorters x = Check.of(HOUSE);
        CHECK.due("none: bestSwap(0)", x.bestSwap(0), -2);
        CHECK.due("none: bestSwap(1)", x.bestSwap(1), 5);
        CHECK.due("bestSwap(2)", x.bestSwap(2), -1);
        CHECK.due("bestSwap(-1)", x.bestSwap(-1), -1);
        // r goes to k, 9 minutes: with h or i (1 minute) it is best; of alike ones the first.
        RatSorters y = Check.of("grain a 10 1; hole h 1 a; hole i 1 a; hole j 4 a; hole k 9 a; rat r a k 0 0;");
        CHECK.due("as it is", y.clean(), 29);
        CHECK.due("bestSwap(0)", y.bestSwap(0), 3);
        CHECK.due("bestSwap(1)", y.bestSwap(1), 5);
        y.minutes(1);
        // On its way it keeps its 9 minutes, but its way back is as far as the hole is then.
        CHECK.due("on its way: bestSwap(0)", y.bestSwap(0), 3);
        CHECK.due("on its way: bestSwap(1)", y.bestSwap(1), 12);
        RatSorters late = Check.of("grain a 11 1; hole h 30 a; hole i 29 a; hole j 25 a; rat r a h 0 0; load = 1;");
        CHECK.due("not clean as it is", late.clean(), -2);
        CHECK.due("not as it is: bestSwap(0)", late.bestSwap(0), 2);
        CHECK.due("not as it is: bestSwap(1)", late.bestSwap(1), 10 * 51 + 26);
        RatSorters never = Check.of("grain a 99 1; hole h 30 a; hole i 29 a; rat r a h 0 0; load = 1;");
        CHECK.due("never: bestSwap(0)", never.bestSwap(0), -2);
        CHECK.due("never: bestSwap(1)", never.bestSwap(1), -2);
    }

    private static void missed() {
        RatSorters x = Check.of(HOUSE);
        CHECK.due("missed(5, 0)", x.missed(5, 0), 0);
        CHECK.due("missed(5, 1)", x.missed(5, 1), 0);
        CHECK.due("missed(0, 0)", x.missed(0, 0), 0);
        CHECK.due("missed(-1, 0)", x.missed(-1, 0), -1);
        CHECK.due("missed(601, 0)", x.missed(601, 0), -1);
        CHECK.due("missed(5, 2)", x.missed(5, 2), -1);
        CHECK.due("missed(5, -1)", x.missed(5, -1), -1);
        RatSorters y = Check.of("grain a 4 3; grain b 4 5; hole h 1 a; hole i 1 b; rat r a h 0 0; rat s b i 0 0;");
        CHECK.due("s is worth more", y.missed(9, 0), 1);
        CHECK.due("without it", y.missed(9, 1), 12);
        y.send(1, true);
        CHECK.due("only r is there", y.missed(9, 0), 0);
        CHECK.due("without r", y.missed(9, 1), 0);
        y.send(0, true);
        CHECK.due("all are home", y.missed(9, 0), -2);
        CHECK.due("all are home: worth", y.missed(9, 1), -2);
        CHECK.due("there are none", new RatSorters().missed(9, 0), -2);
    }

    private static void catAt() {
        RatSorters x = Check.of("grain a 10 3; hole h 1 a; rat r a h 0 0;");
        // Behind 11 minutes: a cat from the start leaves room for one load that is not there yet.
        CHECK.due("catAt(1, 0)", x.catAt(1, 0), 0);
        CHECK.due("catAt(1, 1)", x.catAt(1, 1), 0);
        // Behind 12 that load is there in any case.
        CHECK.due("catAt(2, 0)", x.catAt(2, 0), 0);
        CHECK.due("catAt(2, 1)", x.catAt(2, 1), 15);
        // Behind 14 two are there, if the first one was loaded ahead of the cat.
        CHECK.due("catAt(4, 0)", x.catAt(4, 0), 1);
        CHECK.due("catAt(4, 1)", x.catAt(4, 1), 30);
        CHECK.due("catAt(5, 0)", x.catAt(5, 0), 0);
        CHECK.due("catAt(5, 1)", x.catAt(5, 1), 30);
        CHECK.due("catAt(120, 0)", x.catAt(120, 0), 0);
        CHECK.due("catAt(120, 1)", x.catAt(120, 1), 30);
        CHECK.due("catAt(0, 0)", x.catAt(0, 0), -1);
        CHECK.due("catAt(121, 0)", x.catAt(121, 0), -1);
        CHECK.due("catAt(5, 2)", x.catAt(5, 2), -1);
        CHECK.due("catAt(5, -1)", x.catAt(5, -1), -1);
        x.cat(2);
        // Ten minutes more than those two: only a load at minute 2 leaves time for another.
        CHECK.due("with a cat: catAt(5, 0)", x.catAt(5, 0), 3);
        CHECK.due("with a cat: catAt(5, 1)", x.catAt(5, 1), 30);
    }

    private static void starves() {
        RatSorters x = Check.of("grain a 0 1; grain b 1 1; hole h 1 a; rat r a h 0 0; rat s a h 0 0; odd 60;");
        CHECK.due("r eats at 60", x.starves(0), 159);
        CHECK.due("s does not", x.starves(1), 99);
        CHECK.due("starves(2)", x.starves(2), -1);
        CHECK.due("starves(-1)", x.starves(-1), -1);
        x.minutes(99);
        CHECK.due("now", x.starves(1), 0);
        x.send(1, true);
        CHECK.due("now, at home", x.starves(1), 0);
        x.send(0, true);
        CHECK.due("not at home", x.starves(0), -2);
        RatSorters fed = Check.of("grain a 9 1; hole h 1 a; rat r a h 0 0; lamp 0; odd 99;");
        CHECK.due("it eats just then", fed.starves(0), -2);
        RatSorters late = Check.of("grain a 10 1; hole h 1 a; rat r a h 0 0; lamp 0; odd 50;");
        CHECK.due("ten times 50 minutes", late.starves(0), 599);
        CHECK.due("167 times 3 minutes", Check.of("grain a 167 1; hole h 1 a; rat r a h 0 0; lamp 0; odd 3;").starves(0), 600);
        CHECK.due("168 times 3 minutes", Check.of("grain a 168 1; hole h 1 a; rat r a h 0 0; lamp 0; odd 3;").starves(0), -2);
    }

    /** The lots of minute 0 by seed, reckoned apart from the program: 83 41 64 14 38 7 31 98. */
    private static void mean() {
        String text = "grain a 5 1; grain b 1 1; hole h 1 a; hole i 1 b; rat r a h 0 0; errs = 50;";
        RatSorters x = Check.of(text);
        int[] due = {0, 5, 5, 10, 15, 20, 25, 25};
        for (int s = 1; s <= 8; s++) {
            CHECK.due("mean(" + s + ", 2)", x.mean(s, 2), due[s - 1]);
        }
        CHECK.due("mean(8, 1)", x.mean(8, 1), 0);
        CHECK.due("mean(8, 0)", x.mean(8, 0), 0);
        CHECK.due("the seed is as it was", x.then(2, 4), 0);
        RatSorters y = Check.of(text + "seed 3;");
        CHECK.due("from the text's on: mean(1, 2)", y.mean(1, 2), 5);
        CHECK.due("from the text's on: mean(5, 2)", y.mean(5, 2), 20);
        // Of 9999 on: 86 54 62 77 20 33, behind the last seed that can be told.
        RatSorters z = Check.of(text + "seed 9999;");
        CHECK.due("behind 9999: mean(4, 2)", z.mean(4, 2), 0);
        CHECK.due("behind 9999: mean(6, 2)", z.mean(6, 2), 10);
        CHECK.due("mean(0, 2)", x.mean(0, 2), -1);
        CHECK.due("mean(21, 2)", x.mean(21, 2), -1);
        CHECK.due("mean(20, 601)", x.mean(20, 601), -1);
        CHECK.due("mean(20, -1)", x.mean(20, -1), -1);
        CHECK.due("mean(20, 600) is one", x.mean(20, 600) >= 0, true);
    }

    private static void sales() {
        RatSorters x = Check.of("grain a 6 1; grain b 6 1; hole h 1 a; hole i 1 a; hole j 1 b; rat r a h 0 0; rat s a i 0 0;"
                + " rat t b j 0 0; load = 3; wants 10 a 4; wants 10 b 3 a 2; wants 20 a 6; wants 0; wants 9 b 4;");
        CHECK.due("nothing yet: sales(0)", x.sales(0), 0);
        CHECK.due("nothing yet: sales(1)", x.sales(1), 0);
        x.minutes(9);
        CHECK.due("a in both", x.hole(0, 0) + x.hole(1, 0), 6);
        CHECK.due("b in its own", x.hole(2, 1), 6);
        // 2 and 4: 29; 0 and 1: 20.
        CHECK.due("sales(0)", x.sales(0), 29);
        CHECK.due("sales(1)", x.sales(1), 20);
        x.sell(4);
        // 2 alone: 20 (b has 2 left, so 1 cannot be).
        CHECK.due("without 4: sales(0)", x.sales(0), 20);
        CHECK.due("without 4: sales(1)", x.sales(1), 4);
        x.undo();
        x.sell(2);
        CHECK.due("without a: sales(0)", x.sales(0), 9);
        CHECK.due("without a: sales(1)", x.sales(1), 16);
        CHECK.due("sales(2)", x.sales(2), -1);
        CHECK.due("sales(-1)", x.sales(-1), -1);
        RatSorters y = Check.of("grain a 5 1; hole h 1 a; rat r a h 0 0; wants 5 a 3; wants 5 a 3; wants 10 a 5; wants 0 a 1;");
        y.minutes(2);
        CHECK.due("alike: sales(0)", y.sales(0), 10);
        CHECK.due("alike: sales(1)", y.sales(1), 4);
        y.sell(2);
        CHECK.due("sold out: sales(1)", y.sales(1), 0);
        y.undo();
        y.swap(0, 0);
        y.sell(0);
        CHECK.due("who pays nothing is left out", y.sales(1), 0);
    }

    private static void nothingHappens() {
        RatSorters x = Check.of(HOUSE + "wants 1; errs = 30;");
        x.minutes(2);
        x.then(600, 0);
        x.lies(600, 0, 0);
        x.clean();
        x.hire(300, 0);
        x.taught(7, 300);
        x.taughtAt(7, 300, 1);
        x.bestSwap(0);
        x.missed(600, 0);
        x.catAt(120, 0);
        x.starves(0);
        x.mean(20, 600);
        x.sales(0);
        x.jokes(0, -1);
        RatSorters y = Check.of(HOUSE + "wants 1; errs = 30;");
        y.minutes(2);
        for (int round = 0; round < 3; round++) {
            for (int what = 0; what <= 15; what++) {
                CHECK.due("still: count(" + what + ")", x.count(what), y.count(what));
            }
            for (int rat = 0; rat < 3; rat++) {
                for (int what = 0; what <= 8; what++) {
                    CHECK.due("still: rat(" + rat + ", " + what + ")", x.rat(rat, what), y.rat(rat, what));
                }
            }
            x.minutes(1);
            y.minutes(1);
        }
    }
}
