/** Promises 33 to 38: what is told, the jokes, what is held and gone on from, and what is counted. */
public final class TellingTest {
    private static final Check CHECK = new Check();
    /** Behind 2 minutes h has 5 of a and i 4 of b, and nothing more comes. */
    private static final String HOUSE = "grain a 5 1; grain b 4 1; hole h 1 a; hole i 1 b; hole j 1 a;"
            + " rat r a h 0 0; rat s b i 0 0;";

    public static void main(String[] args) {
        tell();
        jokes();
        jokesOfMany();
        jokesByText();
        holding();
        count();
        CHECK.end("telling");
    }

    private static void tell() {
        RatSorters x = Check.of(HOUSE);
        CHECK.due("tell(3, 0, 0, 0)", x.tell(3, 0, 0, 0), -1);
        CHECK.due("tell(-1, 0, 0, 0)", x.tell(-1, 0, 0, 0), -1);
        CHECK.due("tell(0, 2, 0, 0)", x.tell(0, 2, 0, 0), -1);
        CHECK.due("tell(0, -1, 0, 0)", x.tell(0, -1, 0, 0), -1);
        CHECK.due("tell(0, 0, -1, 0)", x.tell(0, 0, -1, 0), -1);
        CHECK.due("tell(0, 0, 100, 0)", x.tell(0, 0, 100, 0), -1);
        CHECK.due("tell(0, 0, 0, -1)", x.tell(0, 0, 0, -1), -1);
        CHECK.due("tell(0, 0, 0, 10000)", x.tell(0, 0, 0, 10000), -1);
        CHECK.due("none is told", x.count(13), 0);
        CHECK.due("forget() of none", x.forget(), 0);
        for (int i = 0; i < 20; i++) {
            CHECK.due("tell " + i, x.tell(2, 1, 99 - i, i == 19 ? 9999 : 0), i);
        }
        CHECK.due("tell of a 21st", x.tell(0, 0, 0, 0), -1);
        CHECK.due("count(13)", x.count(13), 20);
        CHECK.due("no thing done", x.undo(), false);
        CHECK.due("forget()", x.forget(), 20);
        CHECK.due("forgotten", x.count(13), 0);
        CHECK.due("tell again", x.tell(0, 0, 99, 5), 0);
    }

    private static void jokes() {
        RatSorters x = Check.of(HOUSE);
        // None, and 3 pairs with 61 minutes each.
        CHECK.due("jokes(0, -1)", x.jokes(0, -1), 184);
        CHECK.due("jokes(0, 0)", x.jokes(0, 0), -3);
        CHECK.due("jokes(0, 1)", x.jokes(0, 1), 100);
        CHECK.due("jokes(0, 61)", x.jokes(0, 61), 160);
        CHECK.due("jokes(0, 62)", x.jokes(0, 62), 200);
        CHECK.due("jokes(0, 183)", x.jokes(0, 183), 1260);
        CHECK.due("jokes(0, 184)", x.jokes(0, 184), -1);
        CHECK.due("jokes(0, -2)", x.jokes(0, -2), -1);
        CHECK.due("jokes(1, -1)", x.jokes(1, -1), -1);
        CHECK.due("jokes(-1, -1)", x.jokes(-1, -1), -1);
        // Behind 10 minutes b was in h: swapped with i behind 2 to 10 (looked at behind the swap).
        x.tell(0, 1, 10, 4);
        CHECK.due("jokes(1, -1)", x.jokes(1, -1), 9);
        CHECK.due("jokes(1, 0)", x.jokes(1, 0), 102);
        CHECK.due("jokes(1, 8)", x.jokes(1, 8), 110);
        CHECK.due("jokes(1, 9)", x.jokes(1, 9), -1);
        // Behind 5 they were not swapped yet.
        x.tell(1, 1, 5, 4);
        CHECK.due("jokes(2, -1)", x.jokes(2, -1), 5);
        CHECK.due("jokes(2, 0)", x.jokes(2, 0), 106);
        CHECK.due("as known by 1", x.jokes(1, -1), 9);
        // Behind 1 minute, ahead of all that is dropped, a swap is none.
        x.tell(2, 0, 0, 1);
        CHECK.due("what cannot be", x.jokes(3, -1), 0);
        CHECK.due("what cannot be: 0", x.jokes(3, 0), -1);
        x.forget();
        x.tell(0, 0, 60, 5);
        x.tell(1, 1, 60, 4);
        // None; each pair behind 0 and 1 minutes.
        CHECK.due("nothing to see", x.jokes(2, -1), 7);
        CHECK.due("nothing to see: 0", x.jokes(2, 0), -3);
        CHECK.due("nothing to see: 2", x.jokes(2, 2), 101);
        CHECK.due("nothing to see: 6", x.jokes(2, 6), 1201);
    }

    private static void jokesOfMany() {
        // r drops 1 in h behind 2, 5, 8, ..: behind a swap at 5 there is 2 in i, and h goes on from 0.
        RatSorters x = Check.of("grain a 9 1; hole h 1 a; hole i 1 a; rat r a h 0 0; load = 1;");
        x.tell(0, 0, 8, 1);
        CHECK.due("one since: how many", x.jokes(1, -1), 3);
        CHECK.due("one since: the first", x.jokes(1, 0), 105);
        CHECK.due("one since: the last", x.jokes(1, 2), 107);
        x.tell(1, 0, 99, 2);
        CHECK.due("two in the other", x.jokes(2, -1), 3);
        RatSorters none = new RatSorters();
        CHECK.due("no holes: none is one", none.jokes(0, -1), 1);
        CHECK.due("no holes: it", none.jokes(0, 0), -3);
        CHECK.due("no holes: no other", none.jokes(0, 1), -1);
    }

    private static void jokesByText() {
        // It is of the text, whatever was done by hand since.
        RatSorters x = Check.of(HOUSE);
        x.tell(0, 0, 2, 5);
        int many = x.jokes(1, -1);
        x.swap(0, 1);
        x.pour(0, 50);
        x.teach(0, 1);
        x.send(1, true);
        x.minutes(7);
        x.swap(0, 1);
        CHECK.due("what is done by hand is nothing to it", x.jokes(1, -1), many);
        Check.read(x, HOUSE + "load = 1;");
        x.tell(0, 0, 2, 5);
        CHECK.due("of another text", x.jokes(1, -1), 0);
    }

    private static void holding() {
        RatSorters x = Check.of(HOUSE + "wants 3 a 1;");
        CHECK.due("restore of nothing", x.restore(0), false);
        CHECK.due("hold(3)", x.hold(3), false);
        CHECK.due("hold(-1)", x.hold(-1), false);
        x.minutes(2);
        x.sell(0);
        x.cat(5);
        x.tell(0, 0, 0, 0);
        CHECK.due("hold(2)", x.hold(2), true);
        CHECK.due("count(14)", x.count(14), 1);
        CHECK.due("hold is no thing done", x.count(12), 3);
        x.minutes(3);
        x.swap(0, 1);
        x.teach(0, 1);
        x.send(1, true);
        x.forget();
        x.feed(1, 2, 3, 4, 5);
        CHECK.due("hold(0)", x.hold(0), true);
        CHECK.due("restore(1)", x.restore(1), false);
        CHECK.due("restore(3)", x.restore(3), false);
        CHECK.due("restore(-1)", x.restore(-1), false);
        CHECK.due("nothing happened", x.count(12), 7);
        CHECK.due("restore(2)", x.restore(2), true);
        int[] due = {2, 3, 2, 1, 2, 0, 3, 1, 0, 5, 0, 20, 0, 0, 2, 8};
        for (int what = 0; what <= 15; what++) {
            CHECK.due("restored: count(" + what + ")", x.count(what), due[what]);
        }
        CHECK.due("restored: knows", x.rat(0, 6), 0);
        CHECK.due("restored: hole", x.hole(0, 0), 4);
        CHECK.due("nothing can be undone", x.undo(), false);
        x.minutes(600);
        CHECK.due("it stays there", x.restore(2), true);
        CHECK.due("it stays there: minute", x.count(4), 2);
        CHECK.due("the other", x.restore(0), true);
        CHECK.due("the other: minute", x.count(4), 5);
        CHECK.due("the other: home", x.count(8), 2);
        CHECK.due("hold over what is held", x.hold(2), true);
        x.minutes(1);
        x.restore(2);
        CHECK.due("the later one", x.count(4), 5);
    }

    private static void count() {
        RatSorters x = Check.of(HOUSE + "wants 3 a 1; wants 4; lamp 50; odd 1;");
        x.minutes(1);
        x.sell(1);
        x.send(1, true);
        x.cat(7);
        x.minutes(2);
        x.pour(1, 3);
        x.tell(0, 0, 0, 0);
        x.tell(0, 0, 0, 0);
        x.hold(1);
        x.feed(0, 0, 0, 0, 0);
        int[] due = {2, 3, 2, 2, 3, 0, 4, 2, 2, 5, 0, 20, 6, 2, 1, 12};
        for (int what = 0; what <= 15; what++) {
            CHECK.due("count(" + what + ")", x.count(what), due[what]);
        }
        CHECK.due("count(16)", x.count(16), -1);
        CHECK.due("count(-1)", x.count(-1), -1);
        x.minutes(1);
        CHECK.due("eaten", x.count(5), 1);
        CHECK.due("all grains, one less", x.count(15), 11);
        RatSorters y = Check.of("grain a 50 1; hole h 5 a; rat r a h 0 0; rat s a h 0 0; rat t a h 0 0;");
        y.minutes(2);
        CHECK.due("quarrels", y.count(10), 3);
        CHECK.due("carried ones count too", y.count(15), 50);
    }
}
