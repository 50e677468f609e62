/** Promises 6 to 11 and 20: what lies where, the rats, and the minutes with their laws. */
public final class MinuteTest {
    private static final Check CHECK = new Check();
    private static final String MIXED = "grain a 10 3; grain b 10 5; hole h 1 a; hole i 1 b;"
            + " rat r a h 0 0; rat s b i 0 0; load = 4;";

    public static void main(String[] args) {
        heapAndHole();
        wayOfARat();
        worthAndPure();
        minutesGoBy();
        quarrels();
        hungerAtTheHeap();
        lampAndCat();
        loadLaws();
        eatLaws();
        errLaws();
        lots();
        clean();
        CHECK.end("minutes");
    }

    private static void rat(String when, RatSorters x, int rat, int... due) {
        for (int what = 0; what < due.length; what++) {
            CHECK.due(when + ": rat(" + rat + ", " + what + ")", x.rat(rat, what), due[what]);
        }
    }

    private static void heapAndHole() {
        RatSorters x = Check.of(MIXED);
        CHECK.due("heap(0)", x.heap(0), 10);
        CHECK.due("heap(-1)", x.heap(-1), -1);
        CHECK.due("heap(2)", x.heap(2), -1);
        x.minutes(2);
        CHECK.due("heap(0) later", x.heap(0), 6);
        CHECK.due("hole(0, 0)", x.hole(0, 0), 4);
        CHECK.due("hole(0, 1)", x.hole(0, 1), 0);
        CHECK.due("hole(1, 1)", x.hole(1, 1), 4);
        CHECK.due("hole(2, 0)", x.hole(2, 0), -1);
        CHECK.due("hole(-1, 0)", x.hole(-1, 0), -1);
        CHECK.due("hole(0, 2)", x.hole(0, 2), -1);
        CHECK.due("hole(0, -1)", x.hole(0, -1), -1);
    }

    private static void wayOfARat() {
        RatSorters x = Check.of("grain g 20 2; hole h 2 g; hole i 3 g; rat r g h 1 5; load = 6;");
        rat("begin", x, 0, 0, 0, 0, -2, 0, 1, 0, 0, -2);
        x.minutes(1);
        rat("loaded", x, 0, 1, 2, 6, 0, 1, 1, 0, 0, 0);
        x.minutes(1);
        rat("on its way", x, 0, 1, 1, 6, 0, 2, 1, 0, 0, 0);
        x.minutes(1);
        rat("dropped", x, 0, 2, 2, 0, -2, 3, 1, 0, 1, -2);
        CHECK.due("dropped: hole(0, 0)", x.hole(0, 0), 6);
        x.minutes(1);
        rat("on its way back", x, 0, 2, 1, 0, -2, 4, 1, 0, 1, -2);
        x.minutes(1);
        rat("back", x, 0, 0, 0, 0, -2, 5, 1, 0, 1, -2);
        CHECK.due("back: heap(0)", x.heap(0), 14);
        x.minutes(1);
        rat("loaded again", x, 0, 1, 2, 6, 0, 6, 1, 0, 1, 0);
        x.send(0, true);
        rat("home", x, 0, 3, 0, 0, -2, 6, 1, 0, 1, -2);
        x.minutes(9);
        rat("home, not hungrier", x, 0, 3, 0, 0, -2, 6, 1, 0, 1, -2);
        CHECK.due("rat(0, 9)", x.rat(0, 9), -1);
        CHECK.due("rat(0, -1)", x.rat(0, -1), -1);
        CHECK.due("rat(1, 0)", x.rat(1, 0), -1);
        CHECK.due("rat(-1, 0)", x.rat(-1, 0), -1);
    }

    private static void worthAndPure() {
        RatSorters x = Check.of(MIXED);
        CHECK.due("empty: worth(0)", x.worth(0), 0);
        CHECK.due("empty: pure(0, false)", x.pure(0, false), 0);
        CHECK.due("empty: pure(0, true)", x.pure(0, true), 1);
        x.minutes(2);
        CHECK.due("worth(0)", x.worth(0), 12);
        CHECK.due("worth(1)", x.worth(1), 20);
        CHECK.due("pure(0, false)", x.pure(0, false), 1);
        CHECK.due("pure(0, true)", x.pure(0, true), 1);
        x.swap(0, 1);
        CHECK.due("swapped: worth(0)", x.worth(0), 0);
        CHECK.due("swapped: pure(0, false)", x.pure(0, false), 0);
        CHECK.due("swapped: pure(0, true)", x.pure(0, true), 1);
        x.minutes(6);
        CHECK.due("6 by 4: hole(0, 0)", x.hole(0, 0), 6);
        CHECK.due("6 by 4: worth(0)", x.worth(0), 0);
        CHECK.due("6 by 4: pure(0, false)", x.pure(0, false), 3);
        CHECK.due("6 by 4: pure(0, true)", x.pure(0, true), 5);
        x.pour(0, 4);
        x.minutes(3);
        CHECK.due("10 by 4: worth(0)", x.worth(0), 6);
        CHECK.due("10 by 4: pure(0, false)", x.pure(0, false), 5);
        CHECK.due("10 by 4: pure(0, true)", x.pure(0, true), 7);
        CHECK.due("worth(2)", x.worth(2), -1);
        CHECK.due("worth(-1)", x.worth(-1), -1);
        CHECK.due("pure(2, true)", x.pure(2, true), -1);
        CHECK.due("pure(-1, false)", x.pure(-1, false), -1);
    }

    private static void minutesGoBy() {
        RatSorters x = Check.of(MIXED);
        CHECK.due("minutes(0)", x.minutes(0), 0);
        CHECK.due("minutes(0) is no thing done", x.count(12), 0);
        CHECK.due("minutes(-1)", x.minutes(-1), -1);
        CHECK.due("minutes(601)", x.minutes(601), -1);
        CHECK.due("nothing happened", x.count(4), 0);
        CHECK.due("minutes(1)", x.minutes(1), 1);
        CHECK.due("minutes(600)", x.minutes(600), 601);
        CHECK.due("two things done", x.count(12), 2);
        CHECK.due("minutes(0) later", x.minutes(0), 601);
    }

    private static void quarrels() {
        // Both know a: s finds r loading; with all of it taken it finds nothing and eats instead.
        RatSorters x = Check.of("grain a 6 1; grain b 3 1; hole h 1 a; rat r a h 0 0; rat s a h 0 0; load = 6; odd 1;");
        x.minutes(1);
        CHECK.due("all taken: no quarrel", x.count(10), 0);
        CHECK.due("all taken: s eats", x.heap(1), 2);
        CHECK.due("all taken: hunger of s", x.rat(1, 4), 0);
        RatSorters y = Check.of("grain a 6 1; hole h 1 a; rat r a h 0 0; rat s a h 0 0; load = 3; odd 1;");
        y.minutes(1);
        CHECK.due("some left: a quarrel", y.count(10), 1);
        CHECK.due("some left: s does nothing", y.heap(0), 3);
        CHECK.due("some left: s is AT THE HEAP", y.rat(1, 0), 0);
        CHECK.due("some left: hunger of s", y.rat(1, 4), 1);
        y.minutes(1);
        CHECK.due("then s loads", y.rat(1, 2), 3);
        CHECK.due("then no quarrel more", y.count(10), 1);
    }

    private static void hungerAtTheHeap() {
        // r knows a, of which there is none: from hunger 3 on it eats of what there is most of.
        RatSorters x = Check.of("grain a 0 1; grain b 2 1; grain c 3 1; hole h 1 a; rat r a h 0 0; odd 3;");
        x.minutes(2);
        CHECK.due("not yet", x.count(5), 0);
        x.minutes(1);
        CHECK.due("of c, the most", x.heap(2), 2);
        CHECK.due("hunger 0", x.rat(0, 4), 0);
        CHECK.due("eaten", x.count(5), 1);
        x.minutes(3);
        CHECK.due("of alike ones the first", x.heap(1), 1);
        x.minutes(9);
        CHECK.due("all eaten", x.count(15), 0);
        x.minutes(200);
        CHECK.due("hunger 99 at most", x.rat(0, 4), 99);
        CHECK.due("nothing more to eat", x.count(5), 5);
    }

    private static void lampAndCat() {
        RatSorters x = Check.of("grain g 50 1; hole h 1 g; rat r g h 0 0; lamp 4; load = 1;");
        x.minutes(4);
        CHECK.due("lamp: loaded at 0 and 3", x.heap(0), 48);
        x.minutes(40);
        CHECK.due("lamp out", x.heap(0), 48);
        RatSorters dark = Check.of("grain g 50 1; hole h 1 g; rat r g h 0 0; lamp 0; odd 2;");
        dark.minutes(4);
        CHECK.due("lamp 0: only eats", dark.count(5), 2);
        CHECK.due("lamp 0: AT THE HEAP", dark.rat(0, 0), 0);
        RatSorters cat = Check.of("grain g 50 1; hole h 1 g; rat r g h 0 0; load = 1; odd 2;");
        cat.minutes(1);
        cat.cat(6);
        cat.minutes(2);
        CHECK.due("cat: a rat on its way goes on", cat.hole(0, 0), 1);
        cat.minutes(1);
        CHECK.due("cat: eats instead of loading", cat.count(5), 1);
        CHECK.due("cat: three minutes left", cat.count(9), 3);
        cat.minutes(3);
        CHECK.due("cat: gone", cat.count(9), 0);
        CHECK.due("cat: none loaded till then", cat.rat(0, 0), 0);
        cat.minutes(1);
        CHECK.due("cat: loads again", cat.rat(0, 0), 1);
        RatSorters untold = Check.of("grain g 9 1; hole h 1 g; rat r g h 0 0; load = dark / 1111;");
        untold.minutes(1);
        CHECK.due("9999 minutes till the lamp is out, if not told", untold.rat(0, 2), 9);
        lastMinute("", 9999);
        lastMinute("lamp 700;", 700);
    }

    /** In the minute ahead of it a rat that comes back from home loads yet; then it does not. */
    private static void lastMinute(String lamp, int out) {
        RatSorters x = Check.of("grain g 9 1; hole h 1 g; rat r g h 0 0; load = dark + 2; odd 99;" + lamp);
        x.send(0, true);
        for (int minute = 0; minute < out - 1;) {
            minute = x.minutes(Math.min(600, out - 1 - minute));
        }
        x.send(0, false);
        x.minutes(1);
        CHECK.due("ahead of " + out + ": it loads", x.rat(0, 2), 3);
        x.undo();
        x.cat(1);
        x.minutes(1);
        CHECK.due("at " + out + ": the minute", x.count(4), out);
        x.minutes(50);
        CHECK.due("at " + out + ": it does not", x.heap(0), 9);
    }

    private static void load(String law, int due) {
        RatSorters x = Check.of("grain z 0 0; grain g 150 1; hole f 9 g; hole h 3 g; rat r g h 4 0; lamp 20; load = "
                + law + ";");
        x.minutes(1);
        CHECK.due("load = " + law, x.rat(0, 2), due);
    }

    private static void loadLaws() {
        load("hunger + 1", 2);
        load("fat", 4);
        load("much / 2", 75);
        load("dark", 20);
        load("far", 3);
        load("know + 1", 2);
        load("trips", 1);
        load("trips + 6", 6);
        load("0 - 5", 1);
        load("200", 99);
        load("99", 99);
        load("2 + 3 * 4", 14);
        load("(2 + 3) * 4", 20);
        load("20 - 3 - 4", 13);
        load("20 - (3 - 4)", 21);
        load("20 / 3 * 2", 12);
        load("100 / 10 / 2", 5);
        load("2 * 3 + 4 * 5 - 6 / 2", 23);
        load("((((((7))))))", 7);
        load("(0 - 7) / 2 + 10", 7);
        load("7 / 0", 1);
        load("9 + 0 * (1 / 0)", 1);
        load("9 - 1 / know / (know - 1)", 1);
        load("if 1 < 2 then 7 else 1 / 0", 7);
        load("if 2 < 1 then 1 / 0 else 8", 8);
        load("if 1 / 0 < 5 then 7 else 8", 1);
        load("if 2 < 2 then 7 else 8", 8);
        load("if 2 < 1 then 5 else if 1 < 2 then 6 else 7", 6);
        load("if 2 < 1 then 5 else if 3 < 2 then 6 else 7", 7);
        load("if 2 < 1 then 3 else if 2 < 1 then 4 else if 2 < 1 then 5 else if 1 < 2 then 6 else 7", 6);
        load("if 9999 * 9999 * 9999 < 0 then 7 else 8", 7);
        load("9999 * 9999 * 9999 + 9999 * 9999 * 10 + 9999 * 2755 + 2720", 6);
        load("3; load = 6", 6);
        RatSorters x = Check.of("grain g 3 1; hole h 1 g; rat r g h 0 0;");
        x.minutes(1);
        CHECK.due("5, or all there are", x.rat(0, 2), 3);
        RatSorters y = Check.of("grain g 30 1; hole h 1 g; rat r g h 0 0;");
        y.minutes(1);
        CHECK.due("5, if not told", y.rat(0, 2), 5);
    }

    private static void eatLaws() {
        RatSorters x = Check.of("grain g 30 1; hole h 1 g; rat r g h 0 0; load = 8; eats = much / 2 - hunger;");
        x.minutes(1);
        CHECK.due("eats of what it loaded, hunger with the 1 more", x.rat(0, 2), 5);
        CHECK.due("eaten", x.count(5), 3);
        CHECK.due("hunger 0", x.rat(0, 4), 0);
        RatSorters none = Check.of("grain g 30 1; hole h 1 g; rat r g h 0 0; eats = 0 - 3;");
        none.minutes(1);
        CHECK.due("eats 0 at least", none.rat(0, 2), 5);
        CHECK.due("ate nothing: hunger stays", none.rat(0, 4), 1);
        RatSorters all = Check.of("grain g 9 1; hole h 1 g; rat r g h 0 0; eats = 77;");
        all.minutes(1);
        rat("all eaten", all, 0, 1, 1, 0, -2, 0, 0, 0, 0, 0);
        CHECK.due("all eaten: count(5)", all.count(5), 5);
        all.minutes(1);
        rat("all eaten, there", all, 0, 2, 1, 0, -2, 1, 0, 0, 0, -2);
    }

    private static void errs(String laws, int hole) {
        RatSorters x = Check.of("grain g 20 1; hole h 1 g; hole i 2 g; rat r g h 0 0; " + laws);
        x.minutes(1);
        CHECK.due(laws, x.rat(0, 8), hole);
    }

    private static void errLaws() {
        errs("", 0);
        errs("errs = 100;", 1);
        errs("errs = 101;", 1);
        errs("errs = 0 - 1;", 0);
        errs("errs = hunger * 100;", 1);
        errs("eats = 1; errs = hunger * 100;", 0);
        errs("errs = if much < 20 then 100 else 0;", 0);
        errs("errs = if much < 21 then 100 else 0;", 1);
        errs("errs = if far < 2 then 100 else 0;", 1);
        errs("errs = 5 / 0;", 0);
        RatSorters x = Check.of("grain g 20 1; hole h 4 g; hole i 2 g; rat r g i 0 0; errs = 100;");
        x.minutes(1);
        CHECK.due("behind the last hole the first", x.rat(0, 8), 0);
        CHECK.due("as far as that is", x.rat(0, 1), 4);
        x.minutes(4);
        CHECK.due("and as far back", x.rat(0, 1), 4);
        RatSorters one = Check.of("grain g 20 1; hole h 4 g; rat r g h 0 0; errs = 100;");
        one.minutes(1);
        CHECK.due("of one hole the same", one.rat(0, 8), 0);
    }

    /** The lots were reckoned apart from the program, by the document's words. */
    private static void lots() {
        int[] seedNone = {83, 85, 22, 68, 53, 15, 88, 34, 55, 32};
        int[] seedSeven = {57, 51, 50, 52, 91, 1, 20, 6, 10, 71};
        for (int minute = 0; minute < 10; minute++) {
            errsAt(0, minute, 0, seedNone[minute]);
            errsAt(7, minute, 1, seedSeven[minute]);
        }
        errsAt(9999, 0, 7, 0);
        errsAt(9999, 5, 7, 99);
    }

    private static void errsAt(int seed, int minute, int number, int lot) {
        for (int errs = lot; errs <= lot + 1; errs++) {
            StringBuilder text = new StringBuilder("grain z 0 0; grain g 20 1; hole h 1 g; hole i 2 g; seed " + seed + ";");
            for (int rat = 0; rat <= number; rat++) {
                text.append("rat r").append((char) ('a' + rat)).append(rat == number ? " g h 0 0;" : " z h 0 0;");
            }
            RatSorters x = Check.of(text + "errs = " + errs + ";");
            x.send(number, true);
            x.minutes(minute);
            x.send(number, false);
            x.minutes(1);
            CHECK.due("lot of seed " + seed + ", minute " + minute + ", rat " + number + ", errs " + errs,
                    x.rat(number, 8), errs > lot ? 1 : 0);
        }
    }

    private static void clean() {
        RatSorters x = Check.of("grain a 5 1; grain b 5 1; hole h 1 a; rat r a h 0 0;");
        CHECK.due("clean: grain lies there", x.isClean(), false);
        x.minutes(1);
        CHECK.due("clean: one is going", x.isClean(), false);
        x.minutes(1);
        CHECK.due("clean: on its way back, b is known by none", x.isClean(), true);
        x.teach(0, 1);
        CHECK.due("clean: taught b", x.isClean(), false);
        x.send(0, true);
        CHECK.due("clean: home", x.isClean(), true);
        RatSorters y = Check.of("grain a 5 1; hole h 2 a; rat r a h 0 0; eats = 5;");
        y.minutes(1);
        CHECK.due("clean: going with nothing", y.isClean(), false);
        y.minutes(2);
        CHECK.due("clean: back with nothing", y.isClean(), true);
    }
}
