/** What the tests share: counting wrong answers, and feeding a text that is written as a String. */
final class Check {
    private int asked;
    private int wrong;

    void due(String call, long got, long want) {
        asked++;
        if (got != want) {
            wrong++;
            System.out.println(call + " answered " + got + ", due is " + want);
        }
    }

    void due(String call, boolean got, boolean want) {
        due(call, got ? 1 : 0, want ? 1 : 0);
    }

    void fail(String why) {
        wrong++;
        System.out.println(why);
    }

    boolean isWrong() {
        return wrong > 0;
    }

    /** Ends the test with exit code 1 if an answer was wrong. */
    void end(String name) {
        System.out.println(name + ": " + asked + " answers looked at, " + wrong + " wrong");
        if (wrong > 0) {
            System.exit(1);
        }
    }

    /** The text in fives of four bytes each, filled up with blanks. */
    static int[] fives(String text) {
        int many = (text.length() + 19) / 20 * 5;
        int[] all = new int[many];
        for (int i = 0; i < many * 4; i++) {
            int sign = i < text.length() ? text.charAt(i) : ' ';
            all[i / 4] = all[i / 4] << 8 | sign & 255;
        }
        return all;
    }

    static void feed(RatSorters x, String text) {
        int[] all = fives(text);
        for (int i = 0; i < all.length; i += 5) {
            x.feed(all[i], all[i + 1], all[i + 2], all[i + 3], all[i + 4]);
        }
        x.back(all.length * 4 - text.length());
    }

    static int read(RatSorters x, String text) {
        feed(x, text);
        return x.read();
    }

    static RatSorters of(String text) {
        RatSorters x = new RatSorters();
        int fault = read(x, text);
        if (fault != 0) {
            throw new IllegalArgumentException("fault " + fault + " at " + x.place() + " of: " + text);
        }
        return x;
    }
}
