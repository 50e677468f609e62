/** The sentences on minutes, laws, lots, worth and what is clean, and promises 6 to 11 and 20. */
final class EdgesOfMinutes {
    private static final String TERMS = "Terms";
    private static final int LEAST = Integer.MIN_VALUE;
    private static final int LARGEST = Integer.MAX_VALUE;
    /** r and s bring 4 of a and of b behind every third minute from 2 on, each to its hole. */
    private static final String MIXED = "grain a 10 3; grain b 10 5; hole h 1 a; hole i 1 b;"
            + " rat r a h 0 0; rat s b i 0 0; load = 4;";

    private final Sentences s;

    private EdgesOfMinutes(Sentences s) {
        this.s = s;
    }

    static void all(Sentences s) {
        EdgesOfMinutes t = new EdgesOfMinutes(s);
        t.hunger();
        t.quarrels();
        t.loads();
        t.errs();
        t.eatsAtTheHeap();
        t.going();
        t.back();
        t.catAndMinute();
        t.firstIf();
        t.ints();
        t.dividedByNothing();
        t.hungerInLaws();
        t.muchInLaws();
        t.darkInLaws();
        t.otherWordsInLaws();
        t.heldLaws();
        t.lots();
        t.worthOfAHole();
        t.cleanHouse();
        t.heap();
        t.hole();
        t.rat();
        t.worth();
        t.pure();
        t.minutes();
        t.isClean();
    }

    private void rat(String when, RatSorters x, int rat, int... due) {
        for (int what = 0; what < due.length; what++) {
            s.due(when + ": rat(" + rat + ", " + what + ")", x.rat(rat, what), due[what]);
        }
    }

    private void hunger() {
        s.says(TERMS, "A MINUTE: RAT by RAT, those sent HOME not: HUNGER is 1 more (99 at most).");
        RatSorters x = Check.of("grain a 0 1; hole h 1 a; rat r a h 0 0; rat s a h 0 0;");
        x.send(1, true);
        x.minutes(98);
        s.due("98", x.rat(0, 4), 98);
        x.minutes(1);
        s.due("99", x.rat(0, 4), 99);
        x.minutes(1);
        s.due("99 at most", x.rat(0, 4), 99);
        x.minutes(600);
        s.due("99 at most, however long", x.rat(0, 4), 99);
        s.due("at home", x.rat(1, 4), 0);
        RatSorters far = Check.of("grain a 9 1; hole h 30 a; rat r a h 0 0;");
        far.minutes(31);
        s.due("going, too", far.rat(0, 4), 31);
        far.minutes(30);
        s.due("and back", far.rat(0, 4), 61);
        RatSorters last = Check.of("grain a 5 1; grain z 1 1; hole h 1 a; rat r a h 0 0; rat s a h 0 0; odd 1;");
        last.minutes(1);
        s.due("the first rat first", last.rat(0, 2), 5);
        s.due("the next one finds what it left", last.heap(1), 0);
    }

    private void quarrels() {
        s.says(TERMS, "AT THE HEAP: if the LAMP is on (the minute is ahead of it), there is no CAT, and there is GRAIN that it"
                + " KNOWS: if one of a lesser number loaded of that GRAIN in this MINUTE, it QUARRELS: nothing;");
        String two = "grain a 9 1; hole h 1 a; rat r a h 0 0; rat s a h 0 0; load = 3; odd 1;";
        RatSorters x = Check.of(two);
        x.minutes(1);
        s.due("one quarrel", x.count(10), 1);
        rat("who quarrels", x, 1, 0, 0, 0, -2, 1, 0, 0, 0, -2);
        s.due("it eats nothing, however hungry", x.count(5), 0);
        s.due("what lies there", x.heap(0), 6);
        x.minutes(1);
        s.due("in the next minute it loads", x.rat(1, 2), 3);
        s.due("no quarrel more", x.count(10), 1);
        RatSorters all = Check.of("grain a 3 1; hole h 1 a; rat r a h 0 0; rat s a h 0 0; load = 3;");
        all.minutes(1);
        s.due("none is left: no quarrel", all.count(10), 0);
        RatSorters eaten = Check.of("grain a 9 1; hole h 1 a; rat r a h 0 0; rat s a h 0 0; load = 3; eats = 3;");
        eaten.minutes(1);
        s.due("it loaded, though it ate all of it", eaten.count(10), 1);
        RatSorters others = Check.of("grain a 9 1; grain b 9 1; hole h 1 a; rat r a h 0 0; rat s b h 0 0;");
        others.minutes(1);
        s.due("of another grain: no quarrel", others.count(10), 0);
        s.due("of another grain: it loads", others.rat(1, 0), 1);
        RatSorters nibbled = Check.of("grain a 0 1; grain b 9 1; hole h 1 a; rat r a h 0 0; rat s b h 0 0; odd 1;");
        nibbled.minutes(1);
        s.due("one that only ate did not load", nibbled.count(10), 0);
        s.due("so it loads", nibbled.rat(1, 2), 5);
        RatSorters three = Check.of("grain a 99 1; hole h 1 a; rat r a h 0 0; rat s a h 0 0; rat t a h 0 0; load = 3;");
        three.send(0, true);
        three.minutes(1);
        s.due("the first one there loads", three.rat(1, 0), 1);
        s.due("the other quarrels", three.count(10), 1);
        RatSorters cat = Check.of(two);
        cat.cat(1);
        cat.minutes(1);
        s.due("a cat: no quarrel", cat.count(10), 0);
        RatSorters dark = Check.of(two + "lamp 1;");
        dark.minutes(1);
        s.due("minute 0 is ahead of 1", dark.rat(0, 0), 1);
        s.due("minute 1 is not", dark.then(1, 2), 5);
        s.due("minute 1 is not: no quarrel", dark.then(9, 5), 1);
    }

    private void loads() {
        s.says(TERMS, "else it loads as many as LOAD tells (1 at least), or all there are, eats of these as many as EATS tells,"
                + " or all (if any, HUNGER is 0), and goes with what is left (nothing, too):");
        int[][] due = {
            // LOAD, EATS: what lies there yet of 6, what it carries, its hunger
            {3, 0, 3, 3, 1}, {0, 0, 5, 1, 1}, {6, 0, 0, 6, 1}, {7, 0, 0, 6, 1},
            {3, 1, 3, 2, 0}, {3, 3, 3, 0, 0}, {3, 4, 3, 0, 0}, {9, 9, 0, 0, 0}, {0, 1, 5, 0, 0}};
        for (int[] d : due) {
            RatSorters x = Check.of("grain z 9 9; grain a 6 1; hole h 4 a; rat r a h 0 0; load = " + d[0] + "; eats = " + d[1] + ";");
            x.minutes(1);
            String when = "load " + d[0] + ", eats " + d[1];
            s.due(when + ": lies", x.heap(1), d[2]);
            rat(when, x, 0, 1, 4, d[3], d[3] == 0 ? -2 : 1, d[4], 0, 1, 0, 0);
            s.due(when + ": eaten", x.count(5), 6 - d[2] - d[3]);
            s.due(when + ": of no other", x.heap(0), 9);
        }
    }

    private void errs() {
        s.says(TERMS, "to its HOLE, or, if LOT 100 of the SEED and 8 * the minute and its number is less than ERRS tells, to the"
                + " next HOLE by number (behind the last one the first): it is GOING as many MINUTES as that is FAR, from the"
                + " next one on.");
        // The lot of rat 0 at minute 0 by seed 0 is 83.
        String house = "grain a 50 1; hole h 2 a; hole i 5 a; hole j 9 a; rat r a ";
        String[] homes = {"h", "i", "j"};
        int[] far = {2, 5, 9};
        for (int hole = 0; hole < 3; hole++) {
            RatSorters own = Check.of(house + homes[hole] + " 0 0; errs = 83;");
            own.minutes(1);
            s.due("83 is not less than 83: to its own", own.rat(0, 8), hole);
            s.due("as far as that is", own.rat(0, 1), far[hole]);
            RatSorters next = Check.of(house + homes[hole] + " 0 0; errs = 84;");
            next.minutes(1);
            s.due("83 is less than 84: to the next", next.rat(0, 8), (hole + 1) % 3);
            s.due("as far as the next is", next.rat(0, 1), far[(hole + 1) % 3]);
            next.minutes(far[(hole + 1) % 3]);
            s.due("from the next minute on", next.hole((hole + 1) % 3, 0), 5);
        }
        RatSorters one = Check.of("grain a 50 1; hole h 4 a; rat r a h 0 0; errs = 100;");
        one.minutes(1);
        s.due("of one hole the same", one.rat(0, 8), 0);
    }

    private void eatsAtTheHeap() {
        s.says(TERMS, "If there is no such GRAIN, or the LAMP is out, or there is a CAT, and HUNGER is ODD or more: it eats one of"
                + " the GRAIN of which most lies in the HEAP, of alike ones the first (if any; HUNGER 0).");
        String rest = "grain b 2 1; grain c 3 1; grain d 3 1; hole h 1 a; rat r a h 0 0; odd 3;";
        RatSorters[] houses = {Check.of("grain a 0 1;" + rest), Check.of("grain a 1 1; lamp 0;" + rest),
            Check.of("grain a 1 1;" + rest)};
        houses[2].cat(9);
        for (int why = 0; why < 3; why++) {
            RatSorters x = houses[why];
            String when = new String[] {"no such grain", "lamp", "cat"}[why];
            x.minutes(2);
            s.due(when + ": hunger 2, not yet", x.count(5), 0);
            x.minutes(1);
            s.due(when + ": one of c, the first of the most", x.heap(2), 2);
            s.due(when + ": eaten", x.count(5), 1);
            s.due(when + ": hunger", x.rat(0, 4), 0);
            x.minutes(3);
            s.due(when + ": then of d", x.heap(3), 2);
            x.minutes(3);
            s.due(when + ": then of b, the first of alike ones", x.heap(1), 1);
        }
        RatSorters own = Check.of("grain a 2 1; hole h 1 a; rat r a h 0 0; rat s a h 0 0; odd 1; lamp 0;");
        own.minutes(1);
        s.due("each eats one, of its own, too", own.heap(0), 0);
        own.minutes(1);
        s.due("if any", own.count(5), 2);
        s.due("if any: hunger stays", own.rat(0, 4), 1);
        RatSorters more = Check.of("grain a 0 1; hole h 1 a; rat r a h 0 0; odd 3;");
        more.minutes(70);
        more.pour(0, 1);
        more.teach(0, 0);
        more.cat(1);
        more.minutes(1);
        s.due("more than ODD", more.rat(0, 4), 0);
        RatSorters six = Check.of("grain a 0 1; grain b 1 1; grain c 1 1; grain d 1 1; grain e 1 1; grain f 2 1; hole h 1 a;"
                + " rat r a h 0 0; odd 1;");
        six.minutes(1);
        s.due("the last of six", six.heap(5), 1);
        six.minutes(4);
        s.due("then one of each that is left", six.heap(5), 1);
        RatSorters walking = Check.of("grain a 9 1; hole h 9 a; rat r a h 0 0; odd 2;");
        walking.minutes(19);
        s.due("on its way it does not eat", walking.count(5), 0);
    }

    private void going() {
        s.says(TERMS, "GOING: a MINUTE nearer; there it drops all into the HOLE (TRIPS 1 more, if it had something), and goes"
                + " BACK in as many MINUTES, from the next one on.");
        RatSorters x = Check.of("grain a 9 1; hole h 2 a; rat r a h 0 0; load = 6;");
        x.minutes(1);
        rat("loaded", x, 0, 1, 2, 6, 0, 1, 0, 0, 0, 0);
        x.minutes(1);
        rat("nearer", x, 0, 1, 1, 6, 0, 2, 0, 0, 0, 0);
        s.due("nothing is there yet", x.hole(0, 0), 0);
        x.minutes(1);
        rat("there", x, 0, 2, 2, 0, -2, 3, 0, 0, 1, -2);
        s.due("all is there", x.hole(0, 0), 6);
        RatSorters nothing = Check.of("grain a 9 1; hole h 2 a; rat r a h 0 0; load = 6; eats = 6;");
        nothing.minutes(3);
        rat("with nothing", nothing, 0, 2, 2, 0, -2, 2, 0, 0, 0, -2);
        s.due("with nothing: the hole", nothing.hole(0, 0), 0);
        RatSorters one = Check.of("grain a 9 1; hole h 2 a; rat r a h 0 0; load = 1;");
        one.minutes(3);
        rat("with one", one, 0, 2, 2, 0, -2, 3, 0, 0, 1, -2);
        RatSorters astray = Check.of("grain a 9 1; hole h 2 a; hole i 5 a; rat r a h 0 0; errs = 100;");
        astray.minutes(6);
        s.due("back from where it went", astray.rat(0, 1), 5);
        RatSorters near = Check.of("grain a 9 1; hole h 1 a; rat r a h 0 0;");
        near.minutes(1);
        near.cat(9);
        near.minutes(1);
        s.due("a cat does not matter on the way", near.hole(0, 0), 5);
    }

    private void back() {
        s.says(TERMS, "BACK: a MINUTE nearer; then it is AT THE HEAP from the next one on.");
        RatSorters x = Check.of("grain a 9 1; hole h 2 a; rat r a h 0 0; load = 4;");
        x.minutes(4);
        rat("nearer", x, 0, 2, 1, 0, -2, 4, 0, 0, 1, -2);
        x.minutes(1);
        rat("there", x, 0, 0, 0, 0, -2, 5, 0, 0, 1, -2);
        s.due("it loads not yet", x.heap(0), 5);
        x.minutes(1);
        s.due("it loads in the next minute", x.heap(0), 1);
    }

    private void catAndMinute() {
        s.says(TERMS, "The CAT stays a MINUTE less; then it is the next minute.");
        RatSorters x = Check.of(MIXED);
        x.cat(2);
        x.minutes(1);
        s.due("a minute less", x.count(9), 1);
        s.due("the next minute", x.count(4), 1);
        s.due("none loaded", x.heap(0), 10);
        x.minutes(1);
        s.due("gone", x.count(9), 0);
        s.due("none loaded in its last minute", x.heap(0), 10);
        x.minutes(1);
        s.due("no less than gone", x.count(9), 0);
        s.due("loaded", x.heap(0), 6);
        RatSorters empty = new RatSorters();
        empty.cat(5);
        empty.minutes(600);
        s.due("however long", empty.count(9), 0);
    }

    /** What a rat of fat 4 at minute 0, who knows grain 1, loads of 150 by a law; its hole is 3 minutes far. */
    private void load(String law, int due) {
        RatSorters x = Check.of("grain z 0 0; grain g 150 1; hole f 9 g; hole h 3 g; rat r g h 4 0; lamp 20; load = "
                + law + ";");
        x.minutes(1);
        s.due("load = " + law, x.rat(0, 2), due);
    }

    private void firstIf() {
        s.says(TERMS, "LAWS: the E of the first if that holds (one less than the other), else the last one;");
        load("if 1 < 2 then 7 else 8", 7);
        load("if 2 < 2 then 7 else 8", 8);
        load("if 3 < 2 then 7 else 8", 8);
        load("if 0 - 1 < 0 then 7 else 8", 7);
        load("if 1 < 2 then 5 else if 1 < 2 then 6 else 7", 5);
        load("if 2 < 1 then 5 else if 1 < 2 then 6 else 7", 6);
        load("if 2 < 1 then 5 else if 2 < 2 then 6 else 7", 7);
        String none = "if 2 < 1 then 3 else ";
        load(none.repeat(3) + "if 1 < 2 then 6 else 7", 6);
        load(none.repeat(4) + "7", 7);
        load("((((((7))))))", 7);
    }

    private void ints() {
        s.says(TERMS, "ints of 32 bits that wrap, / rounded towards 0;");
        load("if 9999 * 9999 * 9999 < 0 then 7 else 8", 7);
        // The largest int; one more is the least one, and the least one by -1 is itself again.
        String largest = "9999 * 9999 * 21 + 9999 * 4790 + 8416";
        load("if 0 < " + largest + " then 7 else 8", 7);
        load("if " + largest + " + 1 < 0 then 7 else 8", 7);
        load("if 0 - (" + largest + ") - 1 < 0 then 7 else 8", 7);
        load("if 0 - (" + largest + ") - 2 < 0 then 7 else 8", 8);
        load("if (" + largest + " + 1) / (0 - 1) < 0 then 7 else 8", 7);
        load("10 + (0 - 7) / 2", 7);
        load("10 + 7 / (0 - 2)", 7);
        load("10 + 7 / 2", 13);
        load("7 / 1", 7);
        load("20 + 7 / (0 - 1)", 13);
        load("10 + 1 / 2", 10);
        load("10 + 0 / 7", 10);
        load("20 / 3 * 2", 12);
        load("100 / 10 / 2", 5);
        load("20 - 3 - 4", 13);
        load("20 - (3 - 4)", 21);
        load("2 + 3 * 4", 14);
        load("(2 + 3) * 4", 20);
    }

    private void dividedByNothing() {
        s.says(TERMS, "a LAW in which something that is looked at is divided by 0 is 0.");
        load("7 / 0", 1);
        load("9 + 0 / 0", 1);
        load("9 + 0 * (1 / 0)", 1);
        load("9 - 1 / (know - 1)", 1);
        load("if 1 / 0 < 5 then 7 else 8", 1);
        load("if 5 < 1 / 0 then 7 else 8", 1);
        load("if 1 < 2 then 7 / 0 else 8", 1);
        load("if 1 < 2 then 7 else 1 / 0", 7);
        load("if 2 < 1 then 1 / 0 else 8", 8);
        load("if 1 < 2 then 7 else if 1 / 0 < 1 then 6 else 5", 7);
        load("if 2 < 1 then 7 else if 1 / 0 < 1 then 6 else 5", 1);
        RatSorters eats = Check.of("grain a 9 1; hole h 1 a; rat r a h 0 0; eats = 3 + 1 / trips;");
        eats.minutes(1);
        s.due("EATS is 0", eats.count(5), 0);
        RatSorters errs = Check.of("grain a 9 1; hole h 1 a; hole i 1 a; rat r a h 0 0; errs = 100 + 1 / trips;");
        errs.minutes(1);
        s.due("ERRS is 0", errs.rat(0, 8), 0);
    }

    private void hungerInLaws() {
        s.says(TERMS, "hunger (as it is just then: LOAD, EATS with the 1 more, ERRS behind what it ate), fat;");
        load("hunger + 5", 6);
        load("fat", 4);
        RatSorters eats = Check.of("grain a 50 1; hole h 1 a; rat r a h 0 0; load = 20; eats = hunger * 3;");
        eats.cat(4);
        eats.minutes(5);
        s.due("EATS with the 1 more", eats.count(5), 15);
        String house = "grain a 50 1; hole h 1 a; hole i 1 a; rat r a h 0 0; errs = hunger * 100;";
        RatSorters ate = Check.of(house + "eats = 1;");
        ate.minutes(1);
        s.due("ERRS behind what it ate", ate.rat(0, 8), 0);
        RatSorters none = Check.of(house);
        none.minutes(1);
        s.due("it ate nothing", none.rat(0, 8), 1);
        RatSorters fed = Check.of("grain a 50 1; hole h 1 a; rat r a h 8 0; load = fat;");
        fed.give(0, 0, 1);
        fed.minutes(1);
        s.due("fat as it is then", fed.rat(0, 2), 9);
        RatSorters most = Check.of("grain a 0 1; hole h 1 a; rat r a h 0 0; load = hunger - 90;");
        most.minutes(300);
        most.pour(0, 50);
        most.minutes(1);
        s.due("99 at most", most.rat(0, 2), 9);
    }

    private void muchInLaws() {
        s.says(TERMS, "much: of its GRAIN in the HEAP as it begins to load (EATS: what it loaded);");
        load("much / 2", 75);
        RatSorters eats = Check.of("grain z 70 1; grain a 20 1; hole h 1 a; rat r a h 0 0; load = 8; eats = much / 2;");
        eats.minutes(1);
        s.due("EATS: what it loaded", eats.count(5), 4);
        RatSorters all = Check.of("grain a 6 1; hole h 1 a; rat r a h 0 0; load = 8; eats = much / 2;");
        all.minutes(1);
        s.due("EATS: all there were", all.count(5), 3);
        for (int than = 20; than <= 21; than++) {
            RatSorters errs = Check.of("grain a 20 1; hole h 1 a; hole i 1 a; rat r a h 0 0; eats = 2;"
                    + " errs = if much < " + than + " then 100 else 0;");
            errs.minutes(1);
            s.due("ERRS: as it began to load, less than " + than, errs.rat(0, 8), than - 20);
        }
    }

    private void darkInLaws() {
        s.says(TERMS, "dark: minutes till the LAMP is out (0 at least);");
        load("dark", 20);
        RatSorters x = Check.of("grain a 90 1; hole h 1 a; rat r a h 0 0; lamp 7; load = dark * 3;");
        x.minutes(4);
        s.due("at minute 3", x.rat(0, 2), 12);
        x.minutes(3);
        s.due("in its last minute", x.rat(0, 2), 3);
        RatSorters untold = Check.of("grain a 9 1; hole h 1 a; rat r a h 0 0; load = dark / 1111;");
        untold.minutes(1);
        s.due("9999 if not told", untold.rat(0, 2), 9);
    }

    private void otherWordsInLaws() {
        s.says(TERMS, "far: of its HOLE;");
        load("far", 3);
        RatSorters astray = Check.of("grain a 90 1; hole h 2 a; hole i 7 a; rat r a h 0 0; load = far; errs = far * 50;");
        astray.minutes(1);
        s.due("of its own, wherever it goes", astray.rat(0, 2), 2);
        s.due("it goes astray", astray.rat(0, 8), 1);
        s.says(TERMS, "know: the number of the GRAIN it KNOWS;");
        load("know + 6", 7);
        RatSorters taught = Check.of("grain a 9 1; grain b 9 1; grain c 9 1; hole h 2 a; rat r a h 0 0; load = know + 4;");
        taught.teach(0, 2);
        taught.minutes(1);
        s.due("as it was taught", taught.rat(0, 2), 6);
        s.says(TERMS, "trips: its TRIPS.");
        load("trips + 6", 6);
        RatSorters trips = Check.of("grain a 90 1; hole h 1 a; rat r a h 0 0; load = trips + 6;");
        trips.minutes(7);
        s.due("behind two of them", trips.rat(0, 2), 8);
    }

    private void heldLaws() {
        s.says(TERMS, "LOAD held to 1 .. 99, EATS to 0 .. 99, ERRS to 0 .. 100.");
        load("0", 1);
        load("1", 1);
        load("0 - 5", 1);
        load("99", 99);
        load("100", 99);
        load("9999 * 9999", 99);
        int[][] due = {{0, 0}, {99, 99}, {100, 99}, {9999, 99}};
        for (int[] d : due) {
            RatSorters x = Check.of("grain a 300 1; hole h 1 a; rat r a h 0 0; load = 100; eats = " + d[0] + ";");
            x.minutes(1);
            s.due("eats " + d[0], x.count(5), d[1]);
        }
        RatSorters less = Check.of("grain a 300 1; hole h 1 a; rat r a h 0 0; eats = 0 - 1;");
        less.minutes(1);
        s.due("eats 0 at least", less.count(5), 0);
        s.due("eats 0 at least: hunger stays", less.rat(0, 4), 1);
        s.due("eats 0 at least: carries", less.rat(0, 2), 5);
        // The lot of rat 7 at minute 0 by seed 9999 is 0, at minute 5 it is 99.
        errsAt(9999, 0, 7, "0 - 1", 0);
        errsAt(9999, 0, 7, "0", 0);
        errsAt(9999, 0, 7, "1", 1);
        errsAt(9999, 5, 7, "99", 0);
        errsAt(9999, 5, 7, "100", 1);
        errsAt(9999, 5, 7, "101", 1);
    }

    /** Whether a rat of that number that loads at that minute goes to its hole (0), or to the next (1). */
    private void errsAt(int seed, int minute, int number, String errs, int hole) {
        StringBuilder text = new StringBuilder("grain z 0 0; grain g 20 1; hole h 1 g; hole i 2 g; seed " + seed + ";");
        for (int rat = 0; rat <= number; rat++) {
            text.append("rat r").append((char) ('a' + rat)).append(rat == number ? " g h 0 0;" : " z h 0 0;");
        }
        RatSorters x = Check.of(text + "errs = " + errs + ";");
        for (int rat = 0; rat <= number; rat++) {
            x.send(rat, true);
        }
        x.minutes(minute);
        x.send(number, false);
        x.minutes(1);
        s.due("seed " + seed + ", minute " + minute + ", rat " + number + ", errs " + errs, x.rat(number, 8), hole);
    }

    private void lots() {
        s.says(TERMS, "LOT n of a SEED and a which: h is the SEED; for each of 39, which: h becomes (h and it, each bit of which is"
                + " in just one) times 1103515245 and 12345 more, then h and h moved 15 bits down (zeros come in), likewise; the"
                + " rest of h, moved 1 bit down likewise, by n (32 bits that wrap).");
        for (int seed : new int[] {0, 1, 7, 39, 4711, 9999}) {
            for (int minute : new int[] {0, 1, 2, 3, 17, 600}) {
                for (int number = 0; number < 8; number += seed == 7 ? 1 : 7) {
                    int lot = lot(100, seed, 8 * minute + number);
                    errsAt(seed, minute, number, "" + lot, 0);
                    errsAt(seed, minute, number, "" + (lot + 1), 1);
                }
            }
        }
        // Reckoned apart from any program.
        int[] minutes = {83, 85, 22, 68, 53, 15, 88, 34, 55, 32};
        for (int minute = 0; minute < 10; minute++) {
            s.due("by hand", lot(100, 0, 8 * minute), minutes[minute]);
        }
    }

    /** By longs that are cut, so that no sign and no shift of an int can come in. */
    private static int lot(int n, int seed, int which) {
        long h = seed;
        for (long it : new long[] {39, which}) {
            h = ((h ^ it) * 1103515245L + 12345L) % 4294967296L;
            h = h ^ h / 32768;
        }
        return (int) (h / 2 % n);
    }

    private void worthOfAHole() {
        s.says(TERMS, "WORTH of a HOLE: PENCE of its GRAIN for each of these in it, less twice that for each other grain in it;"
                + " 0 at least.");
        // Own ones, then others that t brings to the same hole a minute later.
        int[][] due = {{5, 0, 35}, {5, 1, 21}, {5, 2, 7}, {4, 2, 0}, {5, 3, 0}, {0, 3, 0}, {0, 0, 0}};
        for (int[] d : due) {
            RatSorters x = Check.of("grain a " + d[0] + " 7; grain b " + d[1] + " 90; hole h 1 a; hole i 1 b; rat r a h 0 0; rat t b h 0 0;");
            x.minutes(2);
            s.due(d[0] + " own, " + d[1] + " others", x.worth(0), d[2]);
            s.due(d[0] + " own, " + d[1] + " others: all", x.then(0, 0), d[2]);
            s.due(d[0] + " own, " + d[1] + " others: the other hole", x.worth(1), 0);
        }
        RatSorters free = Check.of("grain a 5 0; hole h 1 a; rat r a h 0 0;");
        free.minutes(2);
        s.due("0 pence", free.worth(0), 0);
        RatSorters two = Check.of("grain a 9 7; grain b 9 2; hole h 1 a; hole i 1 a; rat r a h 0 0; rat t b i 0 0;");
        two.minutes(2);
        s.due("what one lacks is not taken from the other", two.then(0, 0), 35);
    }

    private void cleanHouse() {
        s.says(TERMS, "CLEAN: no GRAIN in the HEAP that some RAT that is not HOME KNOWS, and none is GOING.");
        RatSorters x = Check.of("grain a 6 1; grain b 5 1; hole h 1 a; rat r a h 0 0; rat s a h 0 0;");
        s.due("grain that is known", x.isClean(), false);
        x.send(0, true);
        s.due("one that knows it is not home", x.isClean(), false);
        x.send(1, true);
        s.due("all that know it are home", x.isClean(), true);
        x.send(0, false);
        x.minutes(1);
        s.due("one grain is left", x.isClean(), false);
        x.give(1, 0, 1);
        x.send(1, false);
        x.give(1, 0, 1);
        s.due("none is left, one is going", x.isClean(), false);
        x.minutes(1);
        s.due("it goes back, none knows b", x.isClean(), true);
        x.teach(1, 1);
        s.due("one knows b", x.isClean(), false);
        RatSorters nothing = Check.of("grain a 5 1; hole h 2 a; rat r a h 0 0; eats = 5;");
        nothing.minutes(1);
        s.due("going with nothing", nothing.isClean(), false);
        nothing.minutes(2);
        s.due("back with nothing", nothing.isClean(), true);
        s.due("no rats", Check.of("grain a 5 1;").isClean(), true);
        s.due("nothing at all", new RatSorters().isClean(), true);
    }

    private void heap() {
        s.says("Promise 6", "How many of a GRAIN lie in the HEAP; NONE: no such one.");
        RatSorters x = Check.of(MIXED);
        s.due("heap(0)", x.heap(0), 10);
        s.due("heap(1)", x.heap(1), 10);
        x.minutes(1);
        s.due("what is carried does not lie there", x.heap(0), 6);
        for (int grain : new int[] {-1, 2, 6, LEAST, LARGEST}) {
            s.none("heap(" + grain + ")", x, y -> y.heap(grain));
        }
        s.none("the last of six", new RatSorters(), y -> y.heap(5));
        s.due("six", Check.of("grain a 1 1;grain b 1 1;grain c 1 1;grain d 1 1;grain e 1 1;grain f 6 1;").heap(5), 6);
    }

    private void hole() {
        s.says("Promise 7", "How many of a GRAIN are in a HOLE; NONE: no such ones.");
        RatSorters x = Check.of(MIXED + "hole j 1 a;");
        x.minutes(2);
        int[][] due = {{4, 0}, {0, 4}, {0, 0}};
        for (int hole = 0; hole < 3; hole++) {
            for (int grain = 0; grain < 2; grain++) {
                s.due("hole(" + hole + ", " + grain + ")", x.hole(hole, grain), due[hole][grain]);
            }
        }
        for (int none : new int[] {-1, 3, 6, LEAST, LARGEST}) {
            s.none("hole(" + none + ", 0)", x, y -> y.hole(none, 0));
            s.none("hole(0, " + none + ")", x, y -> y.hole(0, none));
            s.none("hole(" + none + ", " + none + ")", x, y -> y.hole(none, none));
        }
        s.none("hole(0, 2)", x, y -> y.hole(0, 2));
    }

    private void rat() {
        s.says("Promise 8", "Of a RAT: what 0: 0 AT THE HEAP, 1 GOING, 2 BACK, 3 HOME, 1 MINUTES till it is there (0 AT THE HEAP,"
                + " HOME), 2 how many it carries, 3 of which GRAIN (-2: nothing), 4 HUNGER, 5 FAT, 6 the GRAIN it KNOWS, 7 TRIPS,"
                + " 8 to which HOLE it goes (-2: not GOING).");
        RatSorters x = Check.of("grain z 0 0; grain g 20 2; hole h 2 g; hole i 3 g; rat r g i 4 5; load = 6; errs = 100;");
        rat("at the heap", x, 0, 0, 0, 0, -2, 0, 4, 1, 0, -2);
        x.minutes(1);
        rat("going", x, 0, 1, 2, 6, 1, 1, 4, 1, 0, 0);
        x.teach(0, 0);
        rat("taught on its way", x, 0, 1, 2, 6, 1, 1, 4, 0, 0, 0);
        x.minutes(2);
        rat("back", x, 0, 2, 2, 0, -2, 3, 4, 0, 1, -2);
        x.send(0, true);
        rat("home from its way back", x, 0, 3, 0, 0, -2, 3, 4, 0, 1, -2);
        x.teach(0, 1);
        x.send(0, false);
        x.minutes(1);
        rat("going again", x, 0, 1, 2, 6, 1, 4, 4, 1, 1, 0);
        x.send(0, true);
        rat("home from its way", x, 0, 3, 0, 0, -2, 4, 4, 1, 1, -2);
        RatSorters nothing = Check.of("grain g 20 2; hole h 2 g; rat r g h 0 0; eats = 99;");
        nothing.minutes(1);
        rat("going with nothing", nothing, 0, 1, 2, 0, -2, 0, 0, 0, 0, 0);

        RatSorters idle = Check.of("grain g 0 2; hole h 2 g; rat r g h 0 0;");
        idle.minutes(60);
        rat("at the heap for long", idle, 0, 0, 0, 0, -2, 60, 0, 0, 0, -2);

        s.says("Promise 8", "NONE for others.");
        for (int none : new int[] {-1, 9, LEAST, LARGEST}) {
            s.none("rat(0, " + none + ")", x, y -> y.rat(0, none));
            s.none("rat(" + none + ", 0)", x, y -> y.rat(none, 0));
        }
        s.none("rat(1, 0)", x, y -> y.rat(1, 0));
        s.none("rat(8, 0)", x, y -> y.rat(8, 0));
        s.none("rat(0, 0) of none", new RatSorters(), y -> y.rat(0, 0));
    }

    private void worth() {
        s.says("Promise 9", "WORTH of a HOLE; NONE: no such one.");
        RatSorters x = Check.of(MIXED);
        s.due("empty", x.worth(0), 0);
        x.minutes(2);
        s.due("worth(0)", x.worth(0), 12);
        s.due("worth(1)", x.worth(1), 20);
        for (int none : new int[] {-1, 2, 6, LEAST, LARGEST}) {
            s.none("worth(" + none + ")", x, y -> y.worth(none));
        }
    }

    private void pure() {
        s.says("Promise 10", "Of a HOLE: how many of its own GRAIN there are by all in it, a fraction that cannot be lessened, above"
                + " (or below) the line (0 by 1, if it is empty); NONE: no such one.");
        // Own ones, others: above, below.
        int[][] due = {{0, 0, 0, 1}, {5, 0, 1, 1}, {0, 5, 0, 1}, {0, 4, 0, 1}, {4, 4, 1, 2}, {3, 1, 3, 4}, {4, 2, 2, 3},
            {2, 4, 1, 3}, {5, 3, 5, 8}, {99, 66, 3, 5}, {97, 89, 97, 186}, {1, 98, 1, 99}};
        for (int[] d : due) {
            RatSorters x = Check.of("load = 99; grain b " + d[1] + " 9; grain a " + d[0] + " 7; hole i 1 b; hole h 1 a;"
                    + " rat r a h 0 0; rat t b h 0 0;");
            x.minutes(2);
            s.due(d[0] + " own, " + d[1] + " others: above", x.pure(1, false), d[2]);
            s.due(d[0] + " own, " + d[1] + " others: below", x.pure(1, true), d[3]);
            s.due("the other one is empty: above", x.pure(0, false), 0);
            s.due("the other one is empty: below", x.pure(0, true), 1);
            for (int none : new int[] {-1, 2, 6, LEAST, LARGEST}) {
                s.none("pure(" + none + ", false)", x, y -> y.pure(none, false));
                s.none("pure(" + none + ", true)", x, y -> y.pure(none, true));
            }
        }
        RatSorters many = Check.of(MIXED);
        many.pour(0, 90);
        many.minutes(600);
        s.due("100 by 100: above", many.pure(0, false), 1);
        s.due("100 by 100: below", many.pure(0, true), 1);
    }

    private void minutes() {
        s.says("Promise 11", "n MINUTES (0 .. 600; 0 is no thing done) go by: which it is;");
        RatSorters x = Check.of(MIXED);
        s.still("minutes(0)", x, 0, y -> y.minutes(0));
        s.due("minutes(0): nothing to undo", x.undo(), false);
        s.due("minutes(1)", x.minutes(1), 1);
        s.due("minutes(600)", x.minutes(600), 601);
        s.due("two things done", x.count(12), 2);
        s.still("minutes(0) later", x, 601, y -> y.minutes(0));
        RatSorters one = Check.of(MIXED);
        for (int minute = 1; minute <= 40; minute++) {
            one.minutes(1);
            RatSorters all = Check.of(MIXED);
            all.minutes(minute);
            s.due("one by one or all at once: heap", all.heap(0), one.heap(0));
            s.due("one by one or all at once: hole", all.hole(1, 1), one.hole(1, 1));
        }

        s.says("Promise 11", "NONE, and nothing happens: no such n.");
        for (int none : new int[] {-1, 601, LEAST, LARGEST}) {
            s.none("minutes(" + none + ")", x, y -> y.minutes(none));
        }
    }

    private void isClean() {
        s.says("Promise 20", "Whether it is CLEAN.");
        RatSorters x = Check.of(MIXED);
        boolean[] due = {false, false, false, false, false, false, false, false, true, true};
        for (int minute = 0; minute < due.length; minute++) {
            s.still("isClean() at " + minute, x, due[minute] ? 1 : 0, y -> y.isClean() ? 1 : 0);
            x.minutes(1);
        }
    }
}
