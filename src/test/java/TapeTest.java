/** Promises 1 to 5: a new object, the tape, and the faults of a text with their places. */
public final class TapeTest {
    private static final Check CHECK = new Check();

    public static void main(String[] args) {
        newObject();
        feeding();
        goingBack();
        reading();
        readingAgain();
        syntax();
        lawSyntax();
        room();
        tokens();
        meaning();
        orderOfFaults();
        CHECK.end("tape");
    }

    private static void fault(String text, int number, int place) {
        RatSorters x = new RatSorters();
        CHECK.due("read of '" + text + "'", Check.read(x, text), number);
        CHECK.due("place in '" + text + "'", x.place(), place);
    }

    private static void fine(String text) {
        fault(text, 0, -1);
    }

    private static String times(int n, String part) {
        return part.repeat(n);
    }

    private static void newObject() {
        RatSorters x = new RatSorters();
        for (int what = 0; what <= 15; what++) {
            CHECK.due("new: count(" + what + ")", x.count(what), 0);
        }
        CHECK.due("new: place()", x.place(), -1);
        CHECK.due("new: isClean()", x.isClean(), true);
        CHECK.due("new: undo()", x.undo(), false);
        CHECK.due("new: restore(0)", x.restore(0), false);
        CHECK.due("new: minutes(600)", x.minutes(600), 600);
        RatSorters other = new RatSorters();
        CHECK.due("new: objects share nothing", other.count(4), 0);
    }

    private static void feeding() {
        RatSorters x = new RatSorters();
        // "lamp", " 0;g", "rain", " g 7", " 9;\n"
        CHECK.due("feed", x.feed(0x6c616d70, 0x20303b67, 0x7261696e, 0x20672037, 0x20393b0a), 20);
        CHECK.due("feed: count(11)", x.count(11), 20);
        CHECK.due("feed: read", x.read(), 0);
        CHECK.due("feed: in that order", x.heap(0), 7);
        for (int i = 1; i <= 100; i++) {
            CHECK.due("feed " + i, x.feed(0x20202020, 0x20202020, 0x20202020, 0x20202020, 0x20202020), 20 * i);
        }
        CHECK.due("feed of a full tape", x.feed(-1, -1, -1, -1, -1), -1);
        CHECK.due("feed of a full tape: count(11)", x.count(11), 2000);
        CHECK.due("back by one", x.back(1), 1999);
        CHECK.due("feed of a nearly full tape", x.feed(0, 0, 0, 0, 0), -1);
        CHECK.due("back by 18 more", x.back(18), 1981);
        CHECK.due("feed of one byte too many", x.feed(0, 0, 0, 0, 0), -1);
        CHECK.due("back by another", x.back(1), 1980);
        CHECK.due("feed of what just fits", x.feed(0x20202020, 0x20202020, 0x20202020, 0x20202020, 0xff202020), 2000);
        CHECK.due("read: a byte of 255", x.read(), 1);
        CHECK.due("place: a byte of 255", x.place(), 1996);
    }

    private static void goingBack() {
        RatSorters x = new RatSorters();
        CHECK.due("back(1) of nothing", x.back(1), -1);
        CHECK.due("back(0) of nothing", x.back(0), 0);
        x.feed(0x6f646420, 0x353b2020, 0x58585858, 0x58585858, 0x58585858);
        CHECK.due("back(-1)", x.back(-1), -1);
        CHECK.due("back of the least int", x.back(Integer.MIN_VALUE), -1);
        CHECK.due("back(21)", x.back(21), -1);
        CHECK.due("back: nothing went", x.count(11), 20);
        CHECK.due("back(0)", x.back(0), 20);
        CHECK.due("back(12)", x.back(12), 8);
        CHECK.due("back: the last ones went", x.read(), 0);
        x.feed(1, 2, 3, 4, 5);
        CHECK.due("back(20)", x.back(20), 0);
        CHECK.due("back: none left", x.read(), 0);
    }

    private static void reading() {
        RatSorters x = Check.of("grain g 9 1; hole h 1 g; rat r g h 3 1; wants 5; lamp 3;");
        x.minutes(2);
        x.cat(4);
        x.sell(0);
        x.hold(1);
        x.tell(0, 0, 1, 0);
        CHECK.due("read of a fault", Check.read(x, "odd 5; odd 0;"), 5);
        CHECK.due("fault: place", x.place(), 11);
        int[] same = {1, 1, 1, 1, 2, 0, 5, 1, 0, 4, 0, 0, 3, 1, 1, 9};
        for (int what = 0; what <= 15; what++) {
            CHECK.due("fault: count(" + what + ")", x.count(what), same[what]);
        }
        CHECK.due("fault: the text stays", x.rat(0, 5), 3);
        CHECK.due("fault: the lamp stays, hunger", x.then(100, 1), 2);
        CHECK.due("read of another", Check.read(x, "grain a 3 1; grain b 4 1; hole h 2 a; rat r b h 1 1;"), 0);
        CHECK.due("another: place", x.place(), -1);
        int[] fresh = {2, 1, 1, 0, 0, 0, 0, 0, 0, 0, 0, 0, 0, 0, 0, 7};
        for (int what = 0; what <= 15; what++) {
            CHECK.due("another: count(" + what + ")", x.count(what), fresh[what]);
        }
        CHECK.due("another: slots are empty", x.restore(1), false);
        int[] rat = {0, 0, 0, -2, 0, 1, 1, 0, -2};
        for (int what = 0; what <= 8; what++) {
            CHECK.due("another: rat(0, " + what + ")", x.rat(0, what), rat[what]);
        }
        x.minutes(50);
        x.send(0, true);
        CHECK.due("read of nothing", x.read(), 0);
        CHECK.due("nothing: no grains", x.count(0), 0);
        CHECK.due("nothing: minute 0", x.count(4), 0);
        Check.feed(x, "what");
        CHECK.due("read of a wrong word", x.read(), 1);
        CHECK.due("the tape is empty then", x.count(11), 0);
        CHECK.due("read once more", x.read(), 0);
        CHECK.due("place is the latest one's", x.place(), -1);
    }

    /** Longest laws, one text behind another: each is read as if it were the first. */
    private static void readingAgain() {
        RatSorters x = new RatSorters();
        for (int i = 0; i < 6; i++) {
            String text = "grain g 99 1;hole h 1 g;rat r g h 0 0;";
            CHECK.due("long law " + i, Check.read(x, text + "load=" + i + times(100, "+1/3") + "+" + i + ";"), 2);
            CHECK.due("law of most tokens " + i, Check.read(x, text + "load=" + i + times(90, "+1*3") + "-255;"), 0);
            x.minutes(1);
            CHECK.due("law of most tokens " + i + ": loads", x.rat(0, 2), 15 + i);
        }
    }

    private static void syntax() {
        fine("");
        fine(" \t\r\n ");
        fault("\u000b", 1, 0);
        fault("grain", 1, 5);
        fault("grain  ", 1, 7);
        fault("grain g 1 2", 1, 11);
        fault("grain g 1 2; x", 1, 13);
        fault("grain g 1 2;;", 1, 12);
        fault("grain grain 1 2;", 1, 6);
        fault("grain trips 1 2;", 1, 6);
        fault("grain 1 g 2;", 1, 6);
        fault("GRAIN g 1 2;", 1, 0);
        fault("grain g 1 -2;", 1, 10);
        fault("lamp g;", 1, 5);
        fault("lamp 5 5;", 1, 7);
        fault("lamp = 5;", 1, 5);
        fault("hole h 1;", 1, 8);
        fault("hole h g 1;", 1, 7);
        fault("rat r g h 1;", 1, 11);
        fault("rat r g 1 1;", 1, 8);
        fault("rat r g h 1 1 1;", 1, 14);
        fault("wants;", 1, 5);
        fault("wants 5 g;", 1, 9);
        fault("wants 5 6;", 1, 8);
        fault("seed 5", 1, 6);
        fault("odd 5.", 1, 5);
        fault("if", 1, 0);
        fault("hunger", 1, 0);
    }

    private static void lawSyntax() {
        fine("load = 5; eats=hunger;errs = if fat<3 then(1)else 2*far-know/trips+much*dark;");
        fine("load = ((((((5))))));");
        fine("load = ((((((5)))))) + ((((((5))))));");
        fault("load 5;", 1, 5);
        fault("load = ;", 1, 7);
        fault("load = 5 5;", 1, 9);
        fault("load = (5;", 1, 9);
        fault("load = 5);", 1, 8);
        fault("load = ();", 1, 8);
        fault("load = -5;", 1, 7);
        fault("load = 1 + ;", 1, 11);
        fault("load = 1 * * 2;", 1, 11);
        fault("load = 5 < 6;", 1, 9);
        fault("load = hungry;", 1, 7);
        fault("load = 5 = 5;", 1, 9);
        fault("load = if 1 < 2 then 3;", 1, 22);
        fault("load = if 1 then", 1, 12);
        fault("load = if 1 < 2 < 3", 1, 16);
        fault("load = if 1 < 2 else", 1, 16);
        fault("load = if (1 < 2) then 3 else 4;", 1, 13);
        fault("load = (if 1 < 2 then 3 else 4);", 1, 8);
        fault("load = if 1 < 2 then if", 1, 21);
        fault("load = 1 then 2;", 1, 9);
        fault("load = if 1 < 2 then 3 else ;", 1, 28);
    }

    private static void room() {
        fault("load = (((((((5)))))));", 2, 13);
        fault("load = 1 + (2 * ((((((5)))))));", 2, 21);
        String ifs = times(4, "if 1 < 2 then 3 else ");
        fine("eats = " + ifs + "4;");
        fault("eats = " + ifs + "if 1 < 2 then 3 else 4;", 2, 7 + ifs.length());
        fault("eats = " + ifs + "if ;", 2, 7 + ifs.length());
        fine("eats = " + ifs + "4; errs = " + ifs + "4;");
        String six = "grain a 1 1;grain b 1 1;grain c 1 1;grain d 1 1;grain e 1 1;grain f 1 1;";
        fine(six);
        fault(six + "grain g 1 1;", 2, six.length());
        fault(six + "grain grain", 2, six.length());
        fault(six + "grain a 1 1;", 2, six.length());
        String holes = "hole ha 1 a;hole hb 1 a;hole hc 1 a;hole hd 1 a;hole he 1 a;hole hf 1 a;";
        fine(six + holes);
        fault(six + holes + "hole hg 1 a;", 2, six.length() + holes.length());
        StringBuilder rats = new StringBuilder(six + holes);
        for (char c = 'a'; c <= 'h'; c++) {
            rats.append("rat r").append(c).append(" a ha 1 1;");
        }
        fine(rats.toString());
        fault(rats + "rat ri a ha 1 1;", 2, rats.length());
        fine(times(5, "wants 1;"));
        fault(times(6, "wants 1;"), 2, 40);
        fine(six + "wants 1 a 1 b 1 c 1 d 1;");
        fault(six + "wants 1 a 1 b 1 c 1 d 1 e 1;", 2, six.length() + 24);
        fault(six + "wants 1 a 1 b 1 c 1 d 1 e", 2, six.length() + 24);
        fault(six + "wants 1 a 1 b 1 c 1 d 1 1", 1, six.length() + 24);
    }

    private static void tokens() {
        fine("grain abcdefgh 1 2;");
        fault("grain abcdefghi 1 2;", 1, 6);
        fine("grain g 0001 02;");
        fault("grain g 12345 2;", 1, 8);
        fault("graing 1 2;", 1, 0);
        fine("grain g1 2;hole h1g;");
        fine("grain a 1 1; grain aa 1 1; grain aaa 1 1; hole ab 1 aa; hole ba 1 aaa; hole az 1 a; hole ca 1 a;");
        fault("grain zzzzzzzz 1 1; grain zzzzzzz 1 1; grain zzzzzzzz 1 1;", 3, 45);
        fine("grain grains 1 2; grain hungers 1 1; grain rats 1 1; grain tri 1 1;");
        String many = times(132, "odd 5;") + "load=5;";
        fine(many);
        fault(many + "odd", 2, many.length());
        fault(many + "  odd 5;", 2, many.length() + 2);
        fault(many + ";", 1, many.length());
        fault(many + "?", 1, many.length());
        fault(times(133, "odd 5;") + "odd", 1, 133 * 6 + 3);
        fault(times(133, "odd 5;") + "odd 5;", 2, 133 * 6 + 4);
        fault(times(133, "odd 5;") + "odd odd", 1, 133 * 6 + 4);
        fine("load = 1" + times(198, "+1") + ";");
        fault("load = 1" + times(199, "+1") + ";", 2, 8 + 2 * 198 + 1);
        fine(times(2000, " "));
    }

    private static void meaning() {
        fault("grain g 1 99; grain g 1 1;", 3, 20);
        fault("grain g 1 1; hole g 1 g;", 3, 18);
        fault("grain g 1 1; hole h 1 g; rat h g h 1 1;", 3, 29);
        fault("grain g 1 1; hole h 1 g; rat g g h 1 1;", 3, 29);
        fault("grain g 1 1; hole h 1 g; rat r g h 1 1; rat r g h 1 1;", 3, 44);
        fault("grain g 1 1; hole h 1 g; rat r g h 1 1; grain r 1 1;", 3, 46);
        fault("grain g 1 1; wants 5 g 1 g 2;", 3, 25);
        fine("grain g 1 1; wants 5 g 1; wants 5 g 1;");
        fault("hole h 30 x;", 4, 10);
        fault("hole h 1 g; grain g 1 1;", 4, 9);
        fault("rat r g h 1 1;", 4, 6);
        fault("grain g 1 1; rat r g h 1 1;", 4, 21);
        fault("grain g 1 1; rat r g g 1 1;", 4, 21);
        fault("grain g 1 1; hole h 1 g; rat r h h 1 1;", 4, 31);
        fault("grain g 1 1; hole h 1 g; hole i 1 h;", 4, 34);
        fault("grain g 1 1; hole h 1 g; rat r g r 1 1;", 4, 33);
        fault("wants 5 g 1;", 4, 8);
        fault("grain g 1 1; hole h 1 g; wants 5 h 1;", 4, 33);
        fault("grain g 1 100;", 5, 10);
        fine("grain g 9999 99;");
        fine("grain g 0 0;");
        fault("grain g 1 1; hole h 0 g;", 5, 20);
        fault("grain g 1 1; hole h 31 g;", 5, 20);
        fine("grain g 1 1; hole h 30 g; rat r g h 9 99; rat s g h 0 0;");
        fault("grain g 1 1; hole h 30 g; rat r g h 10 1;", 5, 36);
        fault("grain g 1 1; hole h 30 g; rat r g h 1 100;", 5, 38);
        fault("grain g 1 1; wants 5 g 0;", 5, 23);
        fine("grain g 1 1; wants 9999 g 9999; wants 0;");
        fault("odd 0;", 5, 4);
        fault("odd 100;", 5, 4);
        fine("odd 1; odd 99; lamp 0; lamp 9999; seed 0; seed 9999; load = 9999;");
    }

    private static void orderOfFaults() {
        fault("odd 0; load = (((((((1)))))));", 2, 20);
        fault("grain g 1 1; grain g 1 1; x", 1, 26);
        fault("hole h 31 x;", 5, 7);
        fault("grain g 1 1; hole g 99 x;", 3, 18);
        fault("wants 5 g 0;", 4, 8);
        fault("odd 0; odd 0;", 5, 4);
        fault("grain g 1 1; wants 1 g 1 g 0;", 3, 25);
    }
}
