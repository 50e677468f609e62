/** The sentences on texts, their tokens and their faults, and promises 1 to 5. */
final class EdgesOfTexts {
    private static final String TERMS = "Terms";
    private static final String[] WORDS = {"grain", "hole", "rat", "load", "eats", "errs", "wants", "lamp", "odd", "seed",
        "if", "then", "else", "hunger", "fat", "much", "dark", "far", "know", "trips"};
    /** One of every sort of token, and what is none. */
    private static final String[] SAMPLES = ("grain hole rat load eats errs wants lamp odd seed if then else hunger fat much"
            + " dark far know trips n 1 ; = + - * / < ( ) ?").split(" ");
    private static final String TELLS = "grain hole rat load eats errs wants lamp odd seed";
    private static final String UNITS = "1 ( hunger fat much dark far know trips";
    private static final String JOINS = "+ - * / ";
    private static final String SIX_GRAINS =
            "grain a 1 1;grain b 1 1;grain c 1 1;grain d 1 1;grain e 1 1;grain f 1 1;";
    private static final String SIX_HOLES =
            "hole ha 1 a;hole hb 1 a;hole hc 1 a;hole hd 1 a;hole he 1 a;hole hf 1 a;";
    private static final String EIGHT_RATS = "rat ra a ha 0 0;rat rb a ha 0 0;rat rc a ha 0 0;rat rd a ha 0 0;"
            + "rat re a ha 0 0;rat rf a ha 0 0;rat rg a ha 0 0;rat rh a ha 0 0;";
    /** 400 tokens. */
    private static final String FULL = "odd 5;".repeat(132) + "load=5;";
    private static final String HOUSE = "grain g 9 1; hole h 1 g; rat r g h 3 1; wants 5 g 1; lamp 30; odd 7; load = 2;";

    private final Sentences s;

    private EdgesOfTexts(Sentences s) {
        this.s = s;
    }

    static void all(Sentences s) {
        EdgesOfTexts t = new EdgesOfTexts(s);
        t.bytes();
        t.blanks();
        t.names();
        t.ints();
        t.signs();
        t.longerOnes();
        t.tells();
        t.laws();
        t.grains();
        t.holes();
        t.rats();
        t.lawsUntold();
        t.merchants();
        t.lamp();
        t.odd();
        t.seed();
        t.several();
        t.firstFault();
        t.syntax();
        t.manyTokens();
        t.manyOfASort();
        t.manyWants();
        t.manyIfs();
        t.manyBrackets();
        t.twice();
        t.wantedTwice();
        t.nameless();
        t.wrong();
        t.nothingChanges();
        t.inPlace();
        t.newObject();
        t.feed();
        t.back();
        t.read();
        t.place();
    }

    private void fault(String text, int number, int place) {
        RatSorters x = new RatSorters();
        s.due("read of '" + text + "'", Check.read(x, text), number);
        s.due("place in '" + text + "'", x.place(), place);
    }

    private void fine(String text) {
        fault(text, 0, -1);
    }

    /** Behind these tokens a text goes on with these and with no others, and it does not end there. */
    private void goesOn(String tokens, String with) {
        String start = tokens.isEmpty() ? "" : tokens + " ";
        if (!tokens.isEmpty()) {
            fault(tokens, 1, tokens.length());
        }
        for (String sample : SAMPLES) {
            String text = start + sample;
            if ((" " + with + " ").contains(" " + sample + " ")) {
                RatSorters x = new RatSorters();
                int number = Check.read(x, text);
                s.due("'" + text + "' goes on", number != 2 && (number != 1 || x.place() == text.length()), true);
            } else {
                fault(text, 1, start.length());
            }
        }
    }

    private void bytes() {
        s.says(TERMS, "A TEXT has 2,000 bytes at most.");
        fine(" ".repeat(1994) + "odd 5;");
        fault(" ".repeat(1999) + "?", 1, 1999);
        fault(" ".repeat(1997) + "odd", 1, 2000);
        fault(" ".repeat(1994) + "seed 5", 1, 2000);
        RatSorters x = new RatSorters();
        Check.feed(x, " ".repeat(1994) + "odd 5;");
        s.due("one more than 2,000", x.feed(0x20202020, 0x20202020, 0x20202020, 0x20202020, 0x20202020), -1);
        s.due("2,000", x.count(11), 2000);
        s.due("are read", x.read(), 0);
    }

    private void blanks() {
        s.says(TERMS, "TOKENS, the longest that can be, with blanks (9, 10, 13, 32) between or not:");
        fault("graing 1 2;", 1, 0);
        fault("grain g 1 2;hole h 1 g;rat r ghr 1 1;", 1, 33);
        fine("grain g1 2;hole h1g;rat r g h 1 2;load=(1)+fat;");
        fine("\t\n\r grain\tg\n1\r2 ;\t\n\r ");
        for (int sign = 0; sign < 256; sign++) {
            boolean isBlank = sign == 9 || sign == 10 || sign == 13 || sign == 32;
            fault((char) sign + "odd 5;", isBlank ? 0 : 1, isBlank ? -1 : 0);
        }
    }

    private void names() {
        s.says(TERMS, "NAMES (letters a .. z, 8 at most, none of the words in quotes),");
        fine("grain abcdefgh 1 2;");
        fault("grain abcdefghi 1 2;", 1, 6);
        for (int sign = 0; sign < 256; sign++) {
            boolean isBlank = sign == 9 || sign == 10 || sign == 13 || sign == 32;
            boolean isLetter = sign >= 97 && sign <= 122;
            fault("grain " + (char) sign + " 1 2;", isLetter ? 0 : 1, isLetter ? -1 : isBlank ? 8 : 6);
        }
        for (String word : WORDS) {
            fault("grain " + word + " 1 2;", 1, 6);
            fine("grain " + word + "s 1 2;");
            fine("grain " + word.substring(0, word.length() - 1) + " 1 2;");
            fine("grain " + word.substring(1) + " 1 2;");
        }
        fault("grain aaaaaaaa 1 1; grain aaaaaaab 1 1; grain aaaaaaa 1 1; grain aaaaaaaa 1 1;", 3, 65);
        fine("grain ab 1 1; grain ba 1 1; grain a 1 1; grain aa 1 1; grain zzzzzzzz 1 1; grain zzzzzzz 1 1;");
    }

    private void ints() {
        s.says(TERMS, "INTS (1 to 4 digits),");
        fine("seed 0;");
        fine("seed 0009;");
        fine("seed 9999;");
        fault("seed 10000;", 1, 5);
        fault("seed 00001;", 1, 5);
        for (int sign = 0; sign < 256; sign++) {
            boolean isBlank = sign == 9 || sign == 10 || sign == 13 || sign == 32;
            boolean isDigit = sign >= 48 && sign <= 57;
            fault("seed " + (char) sign + ";", isDigit ? 0 : 1, isDigit ? -1 : isBlank ? 6 : 5);
        }
        s.due("0010 is ten", Check.of("grain g 0010 1;").heap(0), 10);
    }

    private void signs() {
        s.says(TERMS, "SIGNS ; = + - * / < ( ) .");
        fine("load=(1+2)*3-4/5;eats=if 1<2 then 3 else 4;");
        for (int sign = 0; sign < 256; sign++) {
            boolean isBlank = sign == 9 || sign == 10 || sign == 13 || sign == 32;
            boolean joins = sign == '+' || sign == '-' || sign == '*' || sign == '/' || sign >= '0' && sign <= '9';
            fault("load = 1" + (char) sign + "2;", joins ? 0 : 1, joins ? -1 : isBlank || sign == ';' ? 9 : 8);
        }
    }

    private void longerOnes() {
        s.says(TERMS, "A longer one, all else, is no TOKEN.");
        // If they were cut in two, these would be texts.
        fault("grain g 12345;", 1, 8);
        fault("grain i 1 1; hole h 1 i; rat abcdefghi h 1 2;", 1, 29);
        fault("grain g 1 1; >", 1, 13);
        fault("grain g 1 1.", 1, 11);
        fault("grain G 1 1;", 1, 6);
        // What is no TOKEN is no 401st one.
        fault(FULL + "abcdefghi", 1, FULL.length());
        fault(FULL + "12345", 1, FULL.length());
        fault(FULL + "?", 1, FULL.length());
    }

    private void tells() {
        s.says(TERMS, "text: {TELL}.");
        fine("");
        fine(" \n");
        fine("odd 5; lamp 5;");
        goesOn("", TELLS);
        s.says(TERMS, "TELL: 'grain' NAME INT INT ';'");
        shape("grain n 1 1 ;");
        s.says(TERMS, "| 'hole' NAME INT NAME ';'");
        shape("hole n 1 n ;");
        s.says(TERMS, "| 'rat' NAME NAME NAME INT INT ';'");
        shape("rat n n n 1 1 ;");
        s.says(TERMS, "| ('load' | 'eats' | 'errs') LAW ';'");
        for (String word : new String[] {"load", "eats", "errs"}) {
            goesOn(word, "=");
            goesOn(word + " = 1", JOINS + ";");
            fine(word + " = 1 ;");
        }
        s.says(TERMS, "| 'wants' INT {NAME INT} ';'");
        goesOn("wants", "1");
        goesOn("wants 1", "n ;");
        goesOn("wants 1 n", "1");
        goesOn("wants 1 n 1", "n ;");
        goesOn("wants 1 n 1 n 1 n 1", "n ;");
        s.says(TERMS, "| 'lamp' INT ';'");
        shape("lamp 1 ;");
        s.says(TERMS, "| 'odd' INT ';'");
        shape("odd 1 ;");
        s.says(TERMS, "| 'seed' INT ';'.");
        shape("seed 1 ;");
    }

    /** Each of these tokens, the first one aside, and no other goes on with those ahead of it. */
    private void shape(String tokens) {
        for (int end = tokens.indexOf(' '); end > 0; end = tokens.indexOf(' ', end + 1)) {
            int next = tokens.indexOf(' ', end + 1);
            goesOn(tokens.substring(0, end), tokens.substring(end + 1, next < 0 ? tokens.length() : next));
        }
        RatSorters x = new RatSorters();
        int number = Check.read(x, tokens);
        s.due("the shape of '" + tokens + "'", number == 1 || number == 2, false);
    }

    private void laws() {
        s.says(TERMS, "LAW: '=' {'if' E '<' E 'then' E 'else'} E.");
        String law = "load = ";
        for (int ifs = 0; ifs < 4; ifs++) {
            goesOn(law.trim(), UNITS + " if");
            goesOn(law + "if", UNITS);
            goesOn(law + "if 1", JOINS + "<");
            goesOn(law + "if 1 <", UNITS);
            goesOn(law + "if 1 < 1", JOINS + "then");
            goesOn(law + "if 1 < 1 then", UNITS);
            goesOn(law + "if 1 < 1 then 1", JOINS + "else");
            goesOn(law + "1", JOINS + ";");
            law = law + "if 1 < 1 then 1 else ";
        }
        s.says(TERMS, "E: PART {('+' | '-') PART}.");
        goesOn("load = 1 +", UNITS);
        goesOn("load = 1 -", UNITS);
        goesOn("load = 1 + 1", JOINS + ";");
        goesOn("load = 1 * 1 - 1", JOINS + ";");
        s.says(TERMS, "PART: UNIT {('*' | '/') UNIT}.");
        goesOn("load = 1 *", UNITS);
        goesOn("load = 1 /", UNITS);
        goesOn("load = 1 * 1", JOINS + ";");
        goesOn("load = 1 + 1 / 1", JOINS + ";");
        s.says(TERMS, "UNIT: INT | VAR | '(' E ')'.");
        goesOn("load = (", UNITS);
        goesOn("load = ( 1", JOINS + ")");
        goesOn("load = ( 1 )", JOINS + ";");
        goesOn("load = ( ( 1 )", JOINS + ")");
        goesOn("load = if ( 1", JOINS + ")");
        goesOn("load = if ( 1 )", JOINS + "<");
        s.says(TERMS, "VAR: 'hunger' | 'fat' | 'much' | 'dark' | 'far' | 'know' | 'trips'.");
        for (String word : WORDS) {
            boolean isVar = UNITS.contains(word);
            fault("load = " + word + ";", isVar ? 0 : 1, isVar ? -1 : word.equals("if") ? 9 : 7);
        }
    }

    private void grains() {
        s.says(TERMS, "GRAINS, 6 at most (a NAME, how many were POURED 0 .. 9999, PENCE 0 .. 99 each),");
        fine(SIX_GRAINS);
        fault(SIX_GRAINS + "grain g 1 1;", 2, SIX_GRAINS.length());
        fine("grain g 0 0;");
        fine("grain g 9999 99;");
        fault("grain g 9999 100;", 5, 13);
        s.due("9999 were poured", Check.of("grain g 9999 99;").heap(0), 9999);
        RatSorters x = Check.of("grain g 9999 99; hole h 1 g; rat r g h 0 0;");
        x.minutes(2);
        s.due("99 pence each", x.worth(0), 5 * 99);
    }

    private void holes() {
        s.says(TERMS, "HOLES, 6 at most (a NAME, how FAR 1 .. 30 minutes, whose GRAIN it is),");
        fine(SIX_GRAINS + SIX_HOLES);
        fault(SIX_GRAINS + SIX_HOLES + "hole hg 1 a;", 2, SIX_GRAINS.length() + SIX_HOLES.length());
        fault("grain g 1 1; hole h 0 g;", 5, 20);
        fine("grain g 1 1; hole h 1 g;");
        fine("grain g 1 1; hole h 30 g;");
        fault("grain g 1 1; hole h 31 g;", 5, 20);
        RatSorters x = Check.of("grain g 1 1; hole h 30 g; rat r g h 0 0;");
        x.minutes(1);
        s.due("30 minutes", x.rat(0, 1), 30);
    }

    private void rats() {
        s.says(TERMS, "RATS, 8 at most (a NAME, the GRAIN it KNOWS, its HOLE, FAT 0 .. 9, FEE 0 .. 99),"
                + " numbered each from 0 on as they stand.");
        String all = SIX_GRAINS + SIX_HOLES + EIGHT_RATS;
        fine(all);
        fault(all + "rat ri a ha 0 0;", 2, all.length());
        String house = "grain g 1 1; hole h 1 g; rat r g h ";
        fine(house + "0 0;");
        fine(house + "9 99;");
        fault(house + "10 0;", 5, house.length());
        fault(house + "0 100;", 5, house.length() + 2);
        RatSorters x = Check.of("grain a 3 1; hole h 7 a; grain b 4 1; rat r b h 5 0; hole i 8 b; rat s a i 6 0;");
        s.due("the first grain", x.heap(0), 3);
        s.due("the next grain", x.heap(1), 4);
        s.due("the first rat's grain", x.rat(0, 6), 1);
        s.due("the next rat's fat", x.rat(1, 5), 6);
        x.minutes(1);
        s.due("the first rat's hole", x.rat(0, 8), 0);
        s.due("how far that is", x.rat(0, 1), 7);
        s.due("the next rat's hole", x.rat(1, 8), 1);
        RatSorters eight = Check.of(all);
        s.due("eight are numbered to 7", eight.rat(7, 0), 0);
        s.due("six are numbered to 5", eight.hole(5, 5), 0);
    }

    private void lawsUntold() {
        s.says(TERMS, "LOAD (5, if not told), EATS (0), ERRS (0): LAWS, the last one told.");
        // The lot of rat 7 at minute 0 by seed 9999 is 0: even ERRS 1 would lead it astray.
        String house = "seed 9999; grain z 0 0; grain g 50 1; hole h 1 g; hole i 1 g; rat ra z h 0 0; rat rb z h 0 0;"
                + "rat rc z h 0 0; rat rd z h 0 0; rat re z h 0 0; rat rf z h 0 0; rat rg z h 0 0; rat rh g h 0 0;";
        RatSorters x = Check.of(house);
        x.minutes(1);
        s.due("loads 5", x.heap(1), 45);
        s.due("eats none", x.rat(7, 2), 5);
        s.due("errs not", x.rat(7, 8), 0);
        RatSorters y = Check.of(house + "errs = 1;");
        y.minutes(1);
        s.due("ERRS 1", y.rat(7, 8), 1);
        RatSorters z = Check.of(house + "load = 9; load = 7; eats = 1; eats = 2; errs = 100; errs = 0;");
        z.minutes(1);
        s.due("the last LOAD", z.heap(1), 43);
        s.due("the last EATS", z.rat(7, 2), 5);
        s.due("the last ERRS", z.rat(7, 8), 0);
        // Twice ahead, since what a text tells may be kept in a row that is used for every other text.
        RatSorters again = Check.of("load = 9; eats = 2; errs = 100;");
        Check.read(again, "load = 9; eats = 2; errs = 100;");
        Check.read(again, house);
        again.minutes(1);
        s.due("not told by the latest text: loads 5", again.heap(1), 45);
        s.due("not told by the latest text: eats none", again.rat(7, 2), 5);
        s.due("not told by the latest text: errs not", again.rat(7, 8), 0);
    }

    private void merchants() {
        s.says(TERMS, "MERCHANTS, 5 at most: PAYS 0 .. 9999, WANTS: GRAINS and how many, 1 .. 9999, 4 at most.");
        fine("wants 1;".repeat(5));
        fault("wants 1;".repeat(6), 2, 40);
        fine("grain g 1 1; wants 0 g 1; wants 9999 g 9999;");
        fault("grain g 1 1; wants 1 g 0;", 5, 23);
        fine(SIX_GRAINS + "wants 1 a 1 b 1 c 1 d 1;");
        fault(SIX_GRAINS + "wants 1 a 1 b 1 c 1 d 1 e 1;", 2, SIX_GRAINS.length() + 24);
        RatSorters x = Check.of("wants 0; wants 9999;");
        x.sell(0);
        s.due("pays 0", x.count(6), 0);
        x.sell(1);
        s.due("pays 9999", x.count(6), 9999);
        RatSorters four = Check.of("grain a 1 1; grain b 1 1; grain c 1 1; grain d 1 1; hole ha 1 a; hole hb 1 b; hole hc 1 c;"
                + " hole hd 2 d; rat ra a ha 0 0; rat rb b hb 0 0; rat rc c hc 0 0; rat rd d hd 0 0; wants 5 a 1 b 1 c 1 d 1;");
        four.minutes(2);
        s.due("the 4th is not there yet", four.sell(0), false);
        four.minutes(1);
        s.due("all four are there", four.sell(0), true);
        s.due("all four are gone", four.count(15), 0);
    }

    private void lamp() {
        s.says(TERMS, "LAMP: out at minute 0 .. 9999 (9999).");
        fine("lamp 0;");
        fine("lamp 9999;");
        RatSorters never = Check.of("grain g 9 1; hole h 1 g; rat r g h 0 0; lamp 0;");
        never.minutes(40);
        s.due("out at 0: none is loaded", never.heap(0), 9);
        for (String told : new String[] {"", "lamp 9999;"}) {
            RatSorters x = Check.of("grain g 9 1; hole h 1 g; rat r g h 0 0; odd 99;" + told);
            x.send(0, true);
            for (int minute = 0; minute < 9998;) {
                minute = x.minutes(Math.min(600, 9998 - minute));
            }
            x.send(0, false);
            s.due(told + " at 9998: it loads", x.then(1, 2), 4);
            x.cat(1);
            s.due(told + " at 9999: it does not", x.then(2, 2), 9);
        }
    }

    private void odd() {
        s.says(TERMS, "ODD 1 .. 99 (50).");
        fault("odd 0;", 5, 4);
        fine("odd 1;");
        fine("odd 99;");
        fault("odd 100;", 5, 4);
        int[][] due = {{1, 1}, {99, 99}, {50, 50}};
        for (int[] d : due) {
            RatSorters x = Check.of("grain g 9 1; hole h 1 g; rat r g h 0 0; lamp 0;" + (d[0] == 50 ? "" : "odd " + d[0] + ";"));
            s.due("odd " + d[0] + ": not yet", x.then(d[1] - 1, 1), 0);
            s.due("odd " + d[0] + ": it eats", x.then(d[1], 1), 1);
        }
    }

    private void seed() {
        s.says(TERMS, "SEED 0 .. 9999 (0).");
        fine("seed 0;");
        fine("seed 9999;");
        // The lots of rat 0 at minute 0: 83 by seed 0, 86 by seed 9999.
        int[][] due = {{0, 83}, {9999, 86}, {-1, 83}};
        for (int[] d : due) {
            String seed = d[0] < 0 ? "" : "seed " + d[0] + ";";
            for (int more = 0; more <= 1; more++) {
                RatSorters x = Check.of("grain g 9 1; hole h 1 g; hole i 1 g; rat r g h 0 0; " + seed + "errs = " + (d[1] + more) + ";");
                x.minutes(1);
                s.due("'" + seed + "' errs " + (d[1] + more), x.rat(0, 8), more);
            }
        }
    }

    private void several() {
        s.says(TERMS, "Of several the last one.");
        String house = "grain g 9 1; hole h 1 g; hole i 1 g; rat r g h 0 0;";
        s.due("lamp", Check.of(house + "lamp 0; lamp 5;").then(1, 2), 4);
        s.due("lamp, the other way", Check.of(house + "lamp 5; lamp 0;").then(1, 2), 9);
        s.due("odd", Check.of(house + "lamp 0; odd 9; odd 2;").then(2, 1), 1);
        s.due("odd, the other way", Check.of(house + "lamp 0; odd 2; odd 9;").then(2, 1), 0);
        s.due("seed", Check.of(house + "errs = 84; seed 9999; seed 0;").lies(2, 1, 0), 5);
        s.due("seed, the other way", Check.of(house + "errs = 84; seed 0; seed 9999;").lies(2, 0, 0), 5);
        s.due("not told by the latest text", untold(), 1);
    }

    /** Whether LAMP, ODD and SEED are as if not told, whatever the text ahead told. */
    private int untold() {
        RatSorters x = Check.of("lamp 0; odd 1; seed 9999;");
        Check.read(x, "lamp 0; odd 1; seed 9999;");
        Check.read(x, "grain g 9 1; grain z 9 1; hole h 1 g; hole i 1 g; rat r g h 0 0; errs = 84;");
        return x.then(1, 2) == 13 && x.lies(2, 1, 0) == 5 && x.then(60, 1) == 1 ? 1 : 0;
    }

    private void firstFault() {
        s.says(TERMS, "FAULTS of a text, the first by its place (a byte; the text's end: its length), of one place the least:");
        fault("odd x; odd y;", 1, 4);
        fault("load=(((((((5))))))); odd x;", 2, 11);
        fault("odd x; load=(((((((5)))))));", 1, 4);
        fault("odd 5", 1, 5);
        fault("odd 5  \n", 1, 8);
        fault(FULL + "odd", 2, FULL.length());
        fault(FULL + ";", 1, FULL.length());
        fault(SIX_GRAINS + "wants 1 a 1 b 1 c 1 d 1 e e", 2, SIX_GRAINS.length() + 24);
        fault(SIX_GRAINS + "wants 1 a 1 b 1 c 1 d 1 1 1", 1, SIX_GRAINS.length() + 24);
        fault("grain g 1 100; grain g 1 1;", 5, 10);
        fault("grain g 1 1; grain g 1 100;", 3, 19);
        fault("hole h 31 x;", 5, 7);
        fault("hole h 30 x; odd 0;", 4, 10);
    }

    private void syntax() {
        s.says(TERMS, "1 SYNTAX: a TOKEN, or what is none, with which no text goes on.");
        fault("odd 5;;", 1, 6);
        fault("odd 5; 5", 1, 7);
        fault("odd ?;", 1, 4);
        fault("load = 5 < 6;", 1, 9);
        fault("load = (if 1 < 2 then 3 else 4);", 1, 8);
        fault("load = -5;", 1, 7);
        // Ahead of faults of the other sorts, wherever those are.
        fault("odd 0; grain g 1 1; grain g 1 1; hole h 1 x; ?", 1, 45);
    }

    private void manyTokens() {
        s.says(TERMS, "2 ROOM: a 401st TOKEN;");
        fine(FULL);
        fine(FULL + "  \n");
        fault(FULL + "odd", 2, FULL.length());
        fault(FULL + "  odd 5;", 2, FULL.length() + 2);
        fine("load = 1" + "+1".repeat(198) + ";");
        fault("load = 1" + "+1".repeat(199) + ";", 2, 8 + 2 * 198 + 1);
        fault("odd 5;".repeat(133) + "odd 5;", 2, 133 * 6 + 4);
        fault("odd 5;".repeat(133) + "odd", 1, 133 * 6 + 3);
    }

    private void manyOfASort() {
        s.says(TERMS, "one more of a sort than told (at its first TOKEN);");
        fault(SIX_GRAINS + " grain a", 2, SIX_GRAINS.length() + 1);
        fault(SIX_GRAINS + "odd 5; grain", 2, SIX_GRAINS.length() + 7);
        String holes = SIX_GRAINS + SIX_HOLES;
        fault(holes + "hole", 2, holes.length());
        fault(holes + EIGHT_RATS + "rat", 2, (holes + EIGHT_RATS).length());
        fault("wants 1;".repeat(5) + "wants", 2, 40);
        fine(holes + EIGHT_RATS + "wants 1;".repeat(5) + "odd 5;".repeat(30) + "load = 1;".repeat(9) + "seed 1;".repeat(9));
    }

    private void manyWants() {
        s.says(TERMS, "a 5th want of a merchant (at its NAME);");
        fault(SIX_GRAINS + "wants 1 a 1 b 1 c 1 d 1 e", 2, SIX_GRAINS.length() + 24);
        fault(SIX_GRAINS + "wants 1 a 1 a 1 a 1 a 1 a 1;", 2, SIX_GRAINS.length() + 24);
        fine(SIX_GRAINS + "wants 1 a 1 b 1 c 1 d 1; wants 1 e 1;");
    }

    private void manyIfs() {
        s.says(TERMS, "a 5th if of a LAW (at it);");
        String four = "if 1 < 2 then 3 else ".repeat(4);
        fine("eats = " + four + "4;");
        fault("eats = " + four + "if 1 < 2 then 3 else 4;", 2, 7 + four.length());
        fault("eats = " + four + "if", 2, 7 + four.length());
        fine("eats = " + four + "4; errs = " + four + "4; errs = " + four + "4;");
    }

    private void manyBrackets() {
        s.says(TERMS, "a 7th ( within one another (at it).");
        fine("load = ((((((5))))));");
        fault("load = (((((((5)))))));", 2, 13);
        fault("load = (((((((", 2, 13);
        fault("load = 1 + (2 * ((((((5)))))));", 2, 21);
        fine("load = ((((((5)))))) + ((((((5)))))) * (1);");
        fine("load = (((((1 + (5)) + (6)))));");
        fine("load = if ((((((1)))))) < ((((((1)))))) then ((((((1)))))) else ((((((1))))));");
        fault("load = if 1 < ((((((1)))))) then (((((((1", 2, 39);
    }

    private void twice() {
        s.says(TERMS, "If there is none, likewise: 3 TWICE: a NAME told already (GRAINS, HOLES, RATS together);");
        fault("grain g 1 1; grain g 1 1;", 3, 19);
        fault("grain g 1 1; hole g 1 g;", 3, 18);
        fault("grain g 1 1; hole h 1 g; hole h 1 g;", 3, 30);
        fault("grain g 1 1; hole h 1 g; grain h 1 1;", 3, 31);
        fault("grain g 1 1; hole h 1 g; rat g g h 1 1;", 3, 29);
        fault("grain g 1 1; hole h 1 g; rat h g h 1 1;", 3, 29);
        fault("grain g 1 1; hole h 1 g; rat r g h 1 1; rat r g h 1 1;", 3, 44);
        fault("grain g 1 1; hole h 1 g; rat r g h 1 1; hole r 1 g;", 3, 45);
        fault("grain g 1 1; grain g 1 1; ?", 1, 26);
        fault("grain g 1 1; grain g 1 1; load=(((((((1)))))));", 2, 37);
    }

    private void wantedTwice() {
        s.says(TERMS, "a GRAIN again in one 'wants' (at its NAME).");
        fault("grain g 1 1; wants 5 g 1 g 2;", 3, 25);
        fault("grain g 1 1; grain i 1 1; wants 5 g 1 i 1 g 0;", 3, 42);
        fault(SIX_GRAINS + "wants 5 a 1 b 1 c 1 a 1;", 3, SIX_GRAINS.length() + 20);
        fine("grain g 1 1; wants 5 g 1; wants 5 g 1;");
    }

    private void nameless() {
        s.says(TERMS, "4 NAME: (at it) no such GRAIN, HOLE told ahead.");
        fault("hole h 1 g;", 4, 9);
        fault("hole h 1 g; grain g 1 1;", 4, 9);
        fault("hole h 1 h;", 4, 9);
        fault("grain g 1 1; rat r g h 1 1; hole h 1 g;", 4, 21);
        fault("grain g 1 1; rat r g g 1 1;", 4, 21);
        fault("grain g 1 1; hole h 1 g; rat r h h 1 1;", 4, 31);
        fault("grain g 1 1; hole h 1 g; rat r g r 1 1;", 4, 33);
        fault("wants 5 g 1; grain g 1 1;", 4, 8);
        fault("grain g 1 1; hole h 1 g; wants 5 h 1;", 4, 33);
        fault("grain abc 1 1; hole h 1 ab;", 4, 24);
        fault(SIX_GRAINS + "wants 5 a 1 b 1 c 1 g 1;", 4, SIX_GRAINS.length() + 20);
        // What the text ahead told is not told ahead in this one.
        RatSorters x = Check.of("grain a 1 1; grain b 1 1; grain c 1 1; hole h 1 c;");
        s.due("a grain of another text", Check.read(x, "grain a 1 1; hole h 1 c;"), 4);
        s.due("a grain of another text: place", x.place(), 22);
        s.due("a hole of another text", Check.read(x, "grain a 1 1; rat r a h 1 1;"), 4);
        s.due("a hole of another text: place", x.place(), 21);
    }

    private void wrong() {
        s.says(TERMS, "5 WRONG (at the INT): a number not as told above.");
        fault("grain g 1 100;", 5, 10);
        fault("grain g 1 1; hole h 0 g;", 5, 20);
        fault("grain g 1 1; hole h  31 g;", 5, 21);
        fault("grain g 1 1; hole h 30 g; rat r g h 10 1;", 5, 36);
        fault("grain g 1 1; hole h 30 g; rat r g h 1 100;", 5, 38);
        fault("grain g 1 1; wants 5 g 0000;", 5, 23);
        fault(SIX_GRAINS + "wants 5 a 1 b 1 c 1 d 0;", 5, SIX_GRAINS.length() + 22);
        fault("odd 0;", 5, 4);
        fault("odd 0100;", 5, 4);
        fine("load = 0; eats = 9999; errs = 9999;");
    }

    private void nothingChanges() {
        s.says(TERMS, "A text with a FAULT changes nothing but the tape;");
        String[] texts = {"grain a 7 7; odd", "grain a 7 7; load = (((((((1)))))));", "grain a 7 7; grain a 7 7;",
            "grain a 7 7; hole i 9 x;", "grain a 7 7; hole i 9 a; lamp 0; load = 9; odd 1; seed 7; rat q a i 10 1;"};
        for (int number = 1; number <= 5; number++) {
            RatSorters x = Check.of(HOUSE);
            RatSorters y = Check.of(HOUSE);
            for (RatSorters one : new RatSorters[] {x, y}) {
                one.minutes(5);
                one.cat(4);
                one.sell(0);
                one.hold(1);
                one.tell(0, 0, 1, 0);
            }
            s.due("read", Check.read(x, texts[number - 1]), number);
            s.due("the tape", x.count(11), 0);
            for (int what = 0; what <= 15; what++) {
                s.due(number + ": count(" + what + ")", x.count(what), y.count(what));
            }
            for (int n = 0; n <= 60; n++) {
                for (int what = 0; what <= 5; what++) {
                    s.due(number + ": then(" + n + ", " + what + ")", x.then(n, what), y.then(n, what));
                }
            }
            s.due(number + ": jokes", x.jokes(1, -1), y.jokes(1, -1));
            s.due(number + ": what was done can be undone", x.undo() && x.undo(), true);
            s.due(number + ": the cat is not there then", x.count(9), 0);
            s.due(number + ": what is held can be gone on from", x.restore(1), true);
            s.due(number + ": the cat is there then", x.count(9), 4);
        }
    }

    private void inPlace() {
        s.says(TERMS, "else it is in place of the one ahead: minute 0, all that was POURED lies in the HEAP, HOLES empty,"
                + " all RATS AT THE HEAP, HUNGER 0, nothing eaten, no COINS, nothing can be undone, nothing is TOLD,"
                + " SLOTS hold nothing.");
        String house = "grain g 90 1; grain i 9 1; hole h 1 g; rat r g h 3 1; rat q g h 3 1; wants 5 g 1; eats = 1;";
        RatSorters x = Check.of(house);
        x.minutes(7);
        x.sell(0);
        x.give(1, 1, 2);
        x.teach(1, 1);
        x.send(1, true);
        x.cat(9);
        x.minutes(2);
        x.pour(0, 5);
        x.tell(0, 0, 1, 0);
        s.due("one is hungry", x.rat(0, 4) > 0, true);
        for (int slot = 0; slot < 3; slot++) {
            x.hold(slot);
        }
        s.due("read of the same", Check.read(x, house), 0);
        s.due("as if it were new", Sentences.seen(x).equals(Sentences.seen(Check.of(house))), true);
        int[] due = {2, 1, 2, 1, 0, 0, 0, 0, 0, 0, 0, 0, 0, 0, 0, 99};
        for (int what = 0; what <= 15; what++) {
            s.due("count(" + what + ")", x.count(what), due[what]);
        }
        s.due("heap(0)", x.heap(0), 90);
        s.due("heap(1)", x.heap(1), 9);
        s.due("hole(0, 0)", x.hole(0, 0), 0);
        int[] rat = {0, 0, 0, -2, 0, 3, 0, 0, -2};
        for (int what = 0; what <= 8; what++) {
            s.due("rat(0, " + what + ")", x.rat(0, what), rat[what]);
            s.due("rat(1, " + what + ")", x.rat(1, what), rat[what]);
        }
        s.due("undo()", x.undo(), false);
        s.due("forget()", x.forget(), 0);
        for (int slot = 0; slot < 3; slot++) {
            s.due("restore(" + slot + ")", x.restore(slot), false);
        }
        inPlaceAgain();
        s.due("an empty text is one, too", x.read(), 0);
        s.due("nothing is there then", x.count(0) + x.count(1) + x.count(2) + x.count(3) + x.count(15), 0);
    }

    /** The fullest texts, one in place of another: each is read as if it were the first. */
    private void inPlaceAgain() {
        RatSorters x = new RatSorters();
        String full = SIX_GRAINS + SIX_HOLES + EIGHT_RATS + "wants 1 a 1 b 1 c 1 d 1;".repeat(5);
        String longest = "grain g 99 1;hole h 1 g;rat r g h 0 0;wants 1;wants 1;wants 1;wants 1;wants 1;load=";
        for (int i = 0; i < 6; i++) {
            s.due("full " + i, Check.read(x, full), 0);
            s.due("full " + i + ": not enough", x.sell(i % 5), false);
            s.due("longest law " + i, Check.read(x, longest + i + "+1*3".repeat(80) + "-225;"), 0);
            x.minutes(1);
            s.due("longest law " + i + ": loads", x.rat(0, 2), 15 + i);
            s.due("who wanted something wants nothing now", x.sell(i % 5), true);
        }
    }

    private void newObject() {
        s.says("Promise 1", "Nothing is told.");
        RatSorters x = new RatSorters();
        for (int what = 0; what <= 15; what++) {
            s.due("count(" + what + ")", x.count(what), 0);
        }
        s.due("place()", x.place(), -1);
        s.due("heap(0)", x.heap(0), -1);
        s.due("hole(0, 0)", x.hole(0, 0), -1);
        s.due("rat(0, 0)", x.rat(0, 0), -1);
        s.due("worth(0)", x.worth(0), -1);
        s.due("isClean()", x.isClean(), true);
        s.due("clean()", x.clean(), 0);
        s.due("undo()", x.undo(), false);
        s.due("restore(0)", x.restore(0), false);
        s.due("forget()", x.forget(), 0);
        s.due("an empty tape is read", x.read(), 0);
        x.minutes(600);
        s.due("another one", new RatSorters().count(4), 0);
    }

    private void feed() {
        s.says("Promise 2", "Twenty bytes, the highest of a first, come behind the tape: how many it has.");
        RatSorters x = new RatSorters();
        // "lamp", " 0;g", "rain", " g 7", " 9;\n" and "\nodd", " 2 ;", "odd ", "9;  ", "  \n\n"
        s.due("feed", x.feed(0x6c616d70, 0x20303b67, 0x7261696e, 0x20672037, 0x20393b0a), 20);
        s.due("feed again", x.feed(0x0a6f6464, 0x2032203b, 0x6f646420, 0x393b2020, 0x20200a0a), 40);
        s.due("count(11)", x.count(11), 40);
        s.due("read", x.read(), 0);
        s.due("heap(0)", x.heap(0), 7);
        s.due("bytes above 127", x.feed(0xff202020, 0x20202020, 0x20202020, 0x20202020, 0x80202020), 20);
        s.due("bytes above 127: read", x.read(), 1);
        s.due("bytes above 127: place", x.place(), 0);

        s.says("Promise 2", "NONE, and nothing comes, if it would have more than 2,000.");
        for (int i = 1; i <= 100; i++) {
            s.due("feed " + i, x.feed(0x20202020, 0x20202020, 0x20202020, 0x20202020, 0x20202020), 20 * i);
        }
        s.none("2,020", x, y -> y.feed(-1, -1, -1, -1, -1));
        s.due("back by 19", x.back(19), 1981);
        s.none("2,001", x, y -> y.feed(-1, -1, -1, -1, -1));
        s.due("back by one more", x.back(1), 1980);
        s.due("2,000", x.feed(0x20202020, 0x20202020, 0x20202020, 0x20202020, 0x20202020), 2000);
        s.due("what did not come is not read", x.read(), 0);
    }

    private void back() {
        s.says("Promise 3", "The last n bytes of the tape go: how many it has.");
        RatSorters x = new RatSorters();
        s.due("back(0) of nothing", x.back(0), 0);
        Check.feed(x, "grain g 7 9;XXXXXXXX");
        s.due("back(0)", x.back(0), 20);
        s.due("back(8)", x.back(8), 12);
        s.due("read", x.read(), 0);
        s.due("the first ones stayed", x.heap(0), 7);
        x.feed(1, 2, 3, 4, 5);
        s.due("back(20), all", x.back(20), 0);
        s.due("read of none", x.read(), 0);
        // What went is no part of a token that is left.
        Check.feed(x, "seed 12345          ");
        s.due("back(11)", x.back(11), 9);
        s.due("it ends behind 1234", x.read(), 1);
        s.due("it ends behind 1234: place", x.place(), 9);
        Check.feed(x, "hole abcdefghi      ");
        s.due("back(7)", x.back(7), 13);
        s.due("it ends behind abcdefgh", x.read(), 1);
        s.due("it ends behind abcdefgh: place", x.place(), 13);

        s.says("Promise 3", "NONE, and nothing goes, if it has not so many, or n is below 0.");
        s.none("back(1) of nothing", x, y -> y.back(1));
        Check.feed(x, "grain g 7 9;        ");
        s.none("back(21)", x, y -> y.back(21));
        s.none("back(-1)", x, y -> y.back(-1));
        s.none("back of the least int", x, y -> y.back(Integer.MIN_VALUE));
        s.none("back of the largest int", x, y -> y.back(Integer.MAX_VALUE));
        s.due("nothing went", x.count(11), 20);
        s.due("read of all", x.read(), 0);
        s.due("heap(0)", x.heap(0), 7);
    }

    private void read() {
        s.says("Promise 4", "The tape, which is empty then, is read: 0, or the number of its FAULT.");
        String[] texts = {"odd 5;", "odd", "wants 1;".repeat(6), "grain g 1 1; grain g 1 1;", "hole h 1 g;", "odd 0;"};
        RatSorters x = new RatSorters();
        for (int number = 0; number <= 5; number++) {
            Check.feed(x, texts[number]);
            s.due("read", x.read(), number);
            s.due("read: the tape", x.count(11), 0);
            s.due("read of an empty tape", x.read(), 0);
        }
    }

    private void place() {
        s.says("Promise 5", "The byte of the latest read()'s FAULT; NONE without.");
        RatSorters x = new RatSorters();
        s.due("without a read", x.place(), -1);
        Check.read(x, "odd 0;");
        s.due("of the latest", x.place(), 4);
        x.minutes(1);
        x.undo();
        s.due("still of the latest", x.place(), 4);
        Check.read(x, "?");
        s.due("byte 0", x.place(), 0);
        Check.read(x, "odd");
        s.due("the text's end", x.place(), 3);
        Check.read(x, "odd 5;");
        s.due("without a FAULT", x.place(), -1);
    }
}
