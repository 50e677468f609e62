/** A seed house in which rats sort what has been mixed. The promises are those of DOC.md. */
public final class RatSorters {
    public static final int NONE = -1;

    /** What is answered where the document says "-2". */
    private static final int NOT = -2;
    private static final int NO_JOKE = -3;

    private static final int MOST_BYTES = 2000;
    private static final int FED_BYTES = 20;
    private static final int MOST_TOKENS = 400;
    private static final int MOST_GRAINS = 6;
    private static final int MOST_HOLES = 6;
    private static final int MOST_RATS = 8;
    private static final int MOST_MERCHANTS = 5;
    private static final int MOST_WANTS = 4;
    private static final int MOST_IFS = 4;
    private static final int MOST_OPEN = 6;
    private static final int MOST_NUMBER = 9999;
    private static final int MOST_PENCE = 99;
    private static final int MOST_HUNGER = 99;
    private static final int MOST_FAT = 9;
    private static final int MOST_LOAD = 99;
    private static final int MOST_CAT = 999;
    private static final int MOST_CAT_GIVEN = 99;
    private static final int MOST_MINUTES = 600;
    private static final int MOST_PLANNED = 300;
    private static final int MOST_CAT_PLANNED = 120;
    private static final int PLANNED_CAT = 10;
    private static final int MOST_TAUGHT = 4;
    private static final int MOST_SEEDS = 20;
    private static final int MOST_UNDONE = 40;
    private static final int MOST_SLOTS = 3;
    private static final int MOST_TOLD = 20;
    private static final int MOST_TOLD_MINUTES = 99;
    private static final int MOST_JOKE_MINUTES = 60;

    private static final int SYNTAX = 1;
    private static final int ROOM = 2;
    private static final int TWICE = 3;
    private static final int NAMELESS = 4;
    private static final int WRONG = 5;

    private final char[] tape = new char[MOST_BYTES];
    private final Tokens tokens = new Tokens();
    private final Grammar grammar = new Grammar(tokens);
    private final Planner planner = new Planner();
    private final Facts facts = new Facts();
    private final House house = new House();
    private final House[] past = new House[MOST_UNDONE];
    private final House[] slots = new House[MOST_SLOTS];
    private Text text = new Text();
    private Text draft = new Text();
    private final Teller teller = new Teller(tokens, draft);
    private final Mill mill = new Mill(text);
    private int tapeLength;
    private int faultPlace = NONE;
    private int pastEnd;
    private int pastMany;
    private int heldSlots;

    public RatSorters() {
        startOver();
    }

    public int feed(int a, int b, int c, int d, int e) {
        if (tapeLength + FED_BYTES > MOST_BYTES) {
            return NONE;
        }
        putFour(a);
        putFour(b);
        putFour(c);
        putFour(d);
        putFour(e);
        return tapeLength;
    }

    public int back(int n) {
        if (n < 0 || n > tapeLength) {
            return NONE;
        }
        tapeLength -= n;
        return tapeLength;
    }

    public int read() {
        tokens.scan(tape, tapeLength);
        tapeLength = 0;
        int fault = grammar.check();
        int at = grammar.at;
        if (fault == 0) {
            fault = teller.fill(draft);
            at = teller.at;
        }
        if (fault != 0) {
            faultPlace = tokens.placeOf(at);
            return fault;
        }
        Text former = text;
        text = draft;
        draft = former;
        faultPlace = NONE;
        startOver();
        return 0;
    }

    public int place() {
        return faultPlace;
    }

    public int heap(int grain) {
        return isOf(grain, text.grains) ? house.heap[grain] : NONE;
    }

    public int hole(int hole, int grain) {
        return isOf(hole, text.holes) && isOf(grain, text.grains) ? house.inHole(hole, grain) : NONE;
    }

    public int rat(int rat, int what) {
        if (!isOf(rat, text.rats)) {
            return NONE;
        }
        Rat asked = house.rats[rat];
        switch (what) {
            case 0:
                return asked.where;
            case 1:
                return asked.left;
            case 2:
                return asked.carries;
            case 3:
                return asked.carries > 0 ? asked.carried : NOT;
            case 4:
                return asked.hunger;
            case 5:
                return asked.fat;
            case 6:
                return asked.knows;
            case 7:
                return asked.trips;
            case 8:
                return asked.where == Rat.GOING ? asked.target : NOT;
            default:
                return NONE;
        }
    }

    public int worth(int hole) {
        return isOf(hole, text.holes) ? house.worthOf(text, hole) : NONE;
    }

    public int pure(int hole, boolean below) {
        if (!isOf(hole, text.holes)) {
            return NONE;
        }
        int all = house.allInHole(hole);
        if (all == 0) {
            return below ? 1 : 0;
        }
        int own = house.inHole(hole, text.owns[hole]);
        int common = Math.max(1, commonDivisor(own, all));
        return (below ? all : own) / common;
    }

    public int minutes(int n) {
        if (n < 0 || n > MOST_MINUTES) {
            return NONE;
        }
        if (n > 0) {
            remember();
            mill.goOn(house, n);
        }
        return house.minute;
    }

    public int pour(int grain, int n) {
        if (!isOf(grain, text.grains) || n < 1 || n > MOST_NUMBER - house.heap[grain]) {
            return NONE;
        }
        remember();
        house.heap[grain] += n;
        return house.heap[grain];
    }

    public boolean swap(int hole, int other) {
        if (!isOf(hole, text.holes) || !isOf(other, text.holes) || hole == other) {
            return false;
        }
        remember();
        house.exchange(hole, other);
        return true;
    }

    public boolean teach(int rat, int grain) {
        if (!isOf(rat, text.rats) || !isOf(grain, text.grains) || house.rats[rat].knows == grain) {
            return false;
        }
        remember();
        house.rats[rat].knows = grain;
        return true;
    }

    public boolean give(int rat, int grain, int n) {
        if (!isOf(rat, text.rats) || !isOf(grain, text.grains) || n < 1 || n > house.heap[grain]
                || house.rats[rat].where != Rat.AT_HEAP) {
            return false;
        }
        remember();
        house.heap[grain] -= n;
        house.eaten += n;
        Rat given = house.rats[rat];
        given.hunger = 0;
        given.fat = Math.min(MOST_FAT, given.fat + 1);
        return true;
    }

    public boolean send(int rat, boolean home) {
        if (!isOf(rat, text.rats) || (house.rats[rat].where == Rat.HOME) == home) {
            return false;
        }
        remember();
        if (home) {
            house.sendHome(rat);
        } else {
            house.callBack(rat);
        }
        return true;
    }

    public int cat(int n) {
        if (n < 1 || n > MOST_CAT_GIVEN || house.cat + n > MOST_CAT) {
            return NONE;
        }
        remember();
        house.cat += n;
        return house.cat;
    }

    public boolean sell(int merchant) {
        if (!isOf(merchant, text.merchants) || (house.sold & 1 << merchant) != 0
                || !house.hasFor(text, 1 << merchant)) {
            return false;
        }
        remember();
        house.handOver(text, merchant);
        return true;
    }

    public boolean undo() {
        if (pastMany == 0) {
            return false;
        }
        int last = (pastEnd + MOST_UNDONE - 1) % MOST_UNDONE;
        if (past[last] == null) {
            return false;
        }
        house.take(past[last]);
        pastEnd = last;
        pastMany--;
        planner.dropWays();
        return true;
    }

    public boolean isClean() {
        return house.isSorted(text);
    }

    public int clean() {
        return planner.cleanBy(mill, house, MOST_MINUTES);
    }

    public int then(int n, int what) {
        if (!isMinutes(n) || !isOf(what, 6)) {
            return NONE;
        }
        House later = planner.ahead(mill, house, n);
        switch (what) {
            case 0:
                return later.allWorth(text);
            case 1:
                return later.eaten;
            case 2:
                return later.allInHeap();
            case 3:
                return later.allInHoles() - later.misplaced(text);
            case 4:
                return later.misplaced(text);
            default:
                return later.quarrels;
        }
    }

    public int lies(int n, int hole, int grain) {
        if (!isMinutes(n) || !isOf(grain, text.grains) || hole != NONE && !isOf(hole, text.holes)) {
            return NONE;
        }
        House later = planner.ahead(mill, house, n);
        return hole == NONE ? later.heap[grain] : later.inHole(hole, grain);
    }

    public int hire(int n, int what) {
        if (n < 1 || n > MOST_PLANNED || !isOf(what, 2)) {
            return NONE;
        }
        planner.seekHired(mill, house, n);
        return what == 0 ? planner.value : planner.choice;
    }

    public int taught(int set, int n) {
        if (!canBeTaught(set, n)) {
            return NONE;
        }
        planner.seekWay(mill, house, set, n);
        return planner.wayWorth;
    }

    public int taughtAt(int set, int n, int i) {
        if (!canBeTaught(set, n) || !isOf(i, Integer.bitCount(set))) {
            return NONE;
        }
        planner.seekWay(mill, house, set, n);
        return planner.grainOf(i, text.grains);
    }

    public int bestSwap(int what) {
        if (!isOf(what, 2)) {
            return NONE;
        }
        planner.seekSwap(mill, house);
        return what == 0 ? planner.choice : planner.value;
    }

    public int missed(int n, int what) {
        if (!isMinutes(n) || !isOf(what, 2)) {
            return NONE;
        }
        planner.seekMissed(mill, house, n);
        return what == 0 ? planner.choice : planner.value;
    }

    public int catAt(int n, int what) {
        if (n < 1 || n > MOST_CAT_PLANNED || !isOf(what, 2)) {
            return NONE;
        }
        planner.seekCat(mill, house, n);
        return what == 0 ? planner.choice : planner.value;
    }

    public int starves(int rat) {
        return isOf(rat, text.rats) ? planner.starvesBy(mill, house, rat) : NONE;
    }

    public int mean(int s, int n) {
        if (s < 1 || s > MOST_SEEDS || !isMinutes(n)) {
            return NONE;
        }
        return planner.misplacedOf(mill, house, s, n);
    }

    public int sales(int what) {
        if (!isOf(what, 2)) {
            return NONE;
        }
        planner.seekSales(text, house);
        return what == 0 ? planner.value : planner.choice;
    }

    public int tell(int hole, int grain, int n, int many) {
        if (!isOf(hole, text.holes) || !isOf(grain, text.grains) || !isOf(n, MOST_TOLD_MINUTES + 1)
                || !isOf(many, MOST_NUMBER + 1)) {
            return NONE;
        }
        return facts.note(hole, grain, n, many);
    }

    public int forget() {
        int many = facts.many;
        facts.many = 0;
        return many;
    }

    public int jokes(int k, int i) {
        if (k < 0 || k > facts.many || i < NONE) {
            return NONE;
        }
        facts.watch(mill);
        return facts.seekJoke(text.holes, k, i);
    }

    public boolean hold(int slot) {
        if (!isOf(slot, MOST_SLOTS)) {
            return false;
        }
        if (slots[slot] == null) {
            slots[slot] = new House();
        }
        slots[slot].take(house);
        heldSlots |= 1 << slot;
        return true;
    }

    public boolean restore(int slot) {
        if (!isOf(slot, MOST_SLOTS) || (heldSlots & 1 << slot) == 0 || slots[slot] == null) {
            return false;
        }
        house.take(slots[slot]);
        pastMany = 0;
        planner.dropWays();
        return true;
    }

    public int count(int what) {
        switch (what) {
            case 0:
                return text.grains;
            case 1:
                return text.holes;
            case 2:
                return text.rats;
            case 3:
                return text.merchants;
            case 4:
                return house.minute;
            case 5:
                return house.eaten;
            case 6:
                return house.coins;
            case 7:
                return house.sold;
            case 8:
                return house.ratsThatAre(text, Rat.HOME);
            case 9:
                return house.cat;
            case 10:
                return house.quarrels;
            case 11:
                return tapeLength;
            case 12:
                return pastMany;
            case 13:
                return facts.many;
            case 14:
                return Integer.bitCount(heldSlots);
            case 15:
                return house.allInHeap() + house.allInHoles() + house.allCarried(text);
            default:
                return NONE;
        }
    }

    private void putFour(int four) {
        for (int shift = 24; shift >= 0 && tapeLength < MOST_BYTES; shift -= 8) {
            tape[tapeLength] = (char) (four >>> shift & 255);
            tapeLength++;
        }
    }

    private void startOver() {
        mill.use(text);
        house.begin(text);
        facts.clear();
        planner.dropWays();
        pastMany = 0;
        heldSlots = 0;
    }

    /** Keeps the house as it is ahead of a thing done, so that it can be undone. */
    private void remember() {
        if (past[pastEnd] == null) {
            past[pastEnd] = new House();
        }
        past[pastEnd].take(house);
        pastEnd = (pastEnd + 1) % MOST_UNDONE;
        pastMany = Math.min(MOST_UNDONE, pastMany + 1);
        planner.dropWays();
    }

    private boolean canBeTaught(int set, int n) {
        boolean isSet = set > 0 && set < 1 << text.rats && Integer.bitCount(set) <= MOST_TAUGHT;
        return isSet && n >= 1 && n <= MOST_PLANNED && text.grains > 0;
    }

    private static boolean isMinutes(int n) {
        return n >= 0 && n <= MOST_MINUTES;
    }

    private static boolean isOf(int number, int many) {
        return number >= 0 && number < many;
    }

    private static int commonDivisor(int one, int other) {
        int larger = other;
        int smaller = one;
        // Two rests in a row at least halve a number, so 64 are plenty for 32 bits.
        for (int i = 0; i < 64 && smaller > 0; i++) {
            int rest = larger % smaller;
            larger = smaller;
            smaller = rest;
        }
        return larger;
    }

    /** A text's tokens as rows, made once and used for every text. */
    private static final class Tokens {
        static final int END = 0;
        static final int STRAY = 1;
        static final int NAME = 2;
        static final int INT = 3;
        static final int GRAIN = 4;
        static final int HOLE = 5;
        static final int RAT = 6;
        static final int LOAD = 7;
        static final int EATS = 8;
        static final int ERRS = 9;
        static final int WANTS = 10;
        static final int LAMP = 11;
        static final int ODD = 12;
        static final int SEED = 13;
        static final int IF = 14;
        static final int THEN = 15;
        static final int ELSE = 16;
        static final int HUNGER = 17;
        static final int TRIPS = 23;
        static final int SEMICOLON = 24;
        static final int EQUALS = 25;
        static final int PLUS = 26;
        static final int MINUS = 27;
        static final int TIMES = 28;
        static final int OVER = 29;
        static final int LESS = 30;
        static final int OPEN = 31;
        static final int CLOSE = 32;

        /** The words in the order of their kinds, each as wide as the next. */
        static final String WORDS =
                "grain  hole   rat    load   eats   errs   wants  lamp   odd    seed   if     then   else   hunger fat    much   dark   far    know   trips  ";
        static final int WORD_WIDTH = 7;
        static final int MANY_WORDS = 20;
        static final String SIGNS = ";=+-*/<()";
        static final int MOST_LETTERS = 8;
        static final int MOST_DIGITS = 4;

        /** One more than may be, so that the grammar sees the 401st, and the text's end behind it. */
        final int[] kinds = new int[MOST_TOKENS + 2];
        final int[] places = new int[MOST_TOKENS + 2];
        /** An INT's number; a NAME's letters as one number, which no other NAME has. */
        final long[] values = new long[MOST_TOKENS + 2];
        int many;

        void scan(char[] tape, int length) {
            many = 0;
            int at = behindBlanks(tape, 0, length);
            for (int i = 0; i <= MOST_TOKENS && at < length; i++) {
                int end = endOf(tape, at, length);
                add(tape, at, end);
                at = behindBlanks(tape, end, length);
            }
            kinds[many] = END;
            places[many] = length;
        }

        int kindOf(int at) {
            return at >= 0 && at <= many ? kinds[at] : END;
        }

        int placeOf(int at) {
            return at >= 0 && at <= many ? places[at] : NONE;
        }

        private void add(char[] tape, int from, int to) {
            places[many] = from;
            values[many] = 0;
            char first = tape[from];
            if (isLetter(first)) {
                kinds[many] = to - from > MOST_LETTERS ? STRAY : wordOf(tape, from, to);
                values[many] = nameOf(tape, from, Math.min(to, from + MOST_LETTERS));
            } else if (isDigit(first)) {
                kinds[many] = to - from > MOST_DIGITS ? STRAY : INT;
                values[many] = numberOf(tape, from, Math.min(to, from + MOST_DIGITS));
            } else {
                int sign = SIGNS.indexOf(first);
                kinds[many] = sign < 0 ? STRAY : SEMICOLON + sign;
            }
            many++;
        }

        private static int behindBlanks(char[] tape, int from, int length) {
            int at = from;
            while (at < length && isBlank(tape[at])) {
                at++;
            }
            return at;
        }

        private static int endOf(char[] tape, int from, int length) {
            int at = from + 1;
            if (isLetter(tape[from])) {
                while (at < length && isLetter(tape[at])) {
                    at++;
                }
            } else if (isDigit(tape[from])) {
                while (at < length && isDigit(tape[at])) {
                    at++;
                }
            }
            return at;
        }

        private static int wordOf(char[] tape, int from, int to) {
            for (int word = 0; word < MANY_WORDS; word++) {
                if (isWord(word, tape, from, to)) {
                    return GRAIN + word;
                }
            }
            return NAME;
        }

        private static boolean isWord(int word, char[] tape, int from, int to) {
            int length = to - from;
            if (length >= WORD_WIDTH) {
                return false;
            }
            int start = word * WORD_WIDTH;
            for (int i = 0; i < length; i++) {
                if (WORDS.charAt(start + i) != tape[from + i]) {
                    return false;
                }
            }
            return WORDS.charAt(start + length) == ' ';
        }

        private static long nameOf(char[] tape, int from, int to) {
            long name = 0;
            for (int at = from; at < to; at++) {
                name = name * 27 + (tape[at] - 'a' + 1);
            }
            return name;
        }

        private static long numberOf(char[] tape, int from, int to) {
            long number = 0;
            for (int at = from; at < to; at++) {
                number = number * 10 + (tape[at] - '0');
            }
            return number;
        }

        private static boolean isBlank(char sign) {
            return sign == 9 || sign == 10 || sign == 13 || sign == 32;
        }

        private static boolean isLetter(char sign) {
            return sign >= 'a' && sign <= 'z';
        }

        private static boolean isDigit(char sign) {
            return sign >= '0' && sign <= '9';
        }
    }

    /** Looks for the first SYNTAX or ROOM fault; behind it a text has the shape that is told. */
    private static final class Grammar {
        final Tokens tokens;
        int at;
        int fault;
        /** How many of each sort were begun, by the word that begins them. */
        final int[] begun = new int[Tokens.SEED + 1];

        Grammar(Tokens read) {
            tokens = read;
        }

        int check() {
            at = 0;
            fault = 0;
            for (int word = 0; word < begun.length; word++) {
                begun[word] = 0;
            }
            for (int tells = 0; tells <= MOST_TOKENS && fault == 0 && kind() != Tokens.END; tells++) {
                checkTell();
            }
            return fault;
        }

        private int kind() {
            return tokens.kindOf(at);
        }

        /** Goes behind a token, if no fault is there: of one place SYNTAX is the lesser one. */
        private void pass(boolean fits, boolean hasRoom) {
            if (fault != 0) {
                return;
            }
            if (!fits) {
                fault = SYNTAX;
            } else if (!hasRoom || at >= MOST_TOKENS) {
                fault = ROOM;
            } else {
                at++;
            }
        }

        private void passKind(int kind) {
            pass(kind() == kind, true);
        }

        private void checkTell() {
            int word = kind();
            boolean begins = word >= Tokens.GRAIN && word <= Tokens.SEED;
            pass(begins, begins && begun[word] < mostOf(word));
            if (fault != 0) {
                return;
            }
            begun[word]++;
            switch (word) {
                case Tokens.GRAIN:
                    checkRow("nii;");
                    break;
                case Tokens.HOLE:
                    checkRow("nin;");
                    break;
                case Tokens.RAT:
                    checkRow("nnnii;");
                    break;
                case Tokens.LOAD:
                case Tokens.EATS:
                case Tokens.ERRS:
                    checkLaw();
                    break;
                case Tokens.WANTS:
                    checkWants();
                    break;
                default:
                    checkRow("i;");
                    break;
            }
        }

        private static int mostOf(int word) {
            switch (word) {
                case Tokens.GRAIN:
                    return MOST_GRAINS;
                case Tokens.HOLE:
                    return MOST_HOLES;
                case Tokens.RAT:
                    return MOST_RATS;
                case Tokens.WANTS:
                    return MOST_MERCHANTS;
                default:
                    return MOST_TOKENS;
            }
        }

        /** A row of NAMES (n), INTS (i) and what ends it. */
        private void checkRow(String row) {
            for (int i = 0; i < row.length(); i++) {
                char due = row.charAt(i);
                passKind(due == 'n' ? Tokens.NAME : due == 'i' ? Tokens.INT : Tokens.SEMICOLON);
            }
        }

        private void checkWants() {
            passKind(Tokens.INT);
            for (int wants = 0; wants <= MOST_WANTS && fault == 0 && kind() == Tokens.NAME; wants++) {
                pass(true, wants < MOST_WANTS);
                passKind(Tokens.INT);
            }
            passKind(Tokens.SEMICOLON);
        }

        private void checkLaw() {
            passKind(Tokens.EQUALS);
            for (int ifs = 0; ifs <= MOST_IFS && fault == 0 && kind() == Tokens.IF; ifs++) {
                pass(true, ifs < MOST_IFS);
                checkSum(Tokens.LESS);
                checkSum(Tokens.THEN);
                checkSum(Tokens.ELSE);
            }
            checkSum(Tokens.SEMICOLON);
        }

        /** An E and the token that ends it. */
        private void checkSum(int end) {
            int open = 0;
            boolean unitIsDue = true;
            for (int i = 0; i <= MOST_TOKENS && fault == 0; i++) {
                int kind = kind();
                if (unitIsDue && kind == Tokens.OPEN) {
                    pass(true, open < MOST_OPEN);
                    open++;
                } else if (unitIsDue) {
                    pass(kind == Tokens.INT || kind >= Tokens.HUNGER && kind <= Tokens.TRIPS, true);
                    unitIsDue = false;
                } else if (kind == Tokens.CLOSE) {
                    pass(open > 0, true);
                    open--;
                } else if (kind >= Tokens.PLUS && kind <= Tokens.OVER) {
                    pass(true, true);
                    unitIsDue = true;
                } else {
                    pass(open == 0 && kind == end, true);
                    return;
                }
            }
        }
    }

    /** What a text tells. */
    private static final class Text {
        final int[] poured = new int[MOST_GRAINS];
        final int[] pence = new int[MOST_GRAINS];
        final int[] far = new int[MOST_HOLES];
        /** The GRAIN of each HOLE. */
        final int[] owns = new int[MOST_HOLES];
        final int[] knows = new int[MOST_RATS];
        /** The HOLE of each RAT. */
        final int[] holeOf = new int[MOST_RATS];
        final int[] fat = new int[MOST_RATS];
        final int[] fee = new int[MOST_RATS];
        final int[] pays = new int[MOST_MERCHANTS];
        /** How many of each GRAIN each MERCHANT wants, 0 of those that it does not. */
        final int[] wants = new int[MOST_MERCHANTS * MOST_GRAINS];
        final Laws laws = new Laws();
        int grains;
        int holes;
        int rats;
        int merchants;
        int lamp = MOST_NUMBER;
        int odd = 50;
        int seed;

        void clear() {
            grains = 0;
            holes = 0;
            rats = 0;
            merchants = 0;
            lamp = MOST_NUMBER;
            odd = 50;
            seed = 0;
            for (int i = 0; i < wants.length; i++) {
                wants[i] = 0;
            }
            laws.clear();
        }

        int wantOf(int merchant, int grain) {
            return wants[merchant * MOST_GRAINS + grain];
        }
    }

    /** Fills a Text from tokens that the Grammar let pass, up to the first fault of the other sorts. */
    private static final class Teller {
        static final int MOST_NAMES = MOST_GRAINS + MOST_HOLES + MOST_RATS;

        final long[] names = new long[MOST_NAMES];
        /** The word that told each NAME, and its number among those of its sort. */
        final int[] sorts = new int[MOST_NAMES];
        final int[] numbers = new int[MOST_NAMES];
        final Tokens tokens;
        int manyNames;
        Text text;
        int at;
        int fault;

        Teller(Tokens read, Text draft) {
            tokens = read;
            text = draft;
        }

        int fill(Text draft) {
            text = draft;
            text.clear();
            manyNames = 0;
            at = 0;
            fault = 0;
            for (int tells = 0; tells < MOST_TOKENS && fault == 0 && at < tokens.many; tells++) {
                fillTell();
            }
            return fault;
        }

        private void fillTell() {
            int word = tokens.kindOf(at);
            at++;
            switch (word) {
                case Tokens.GRAIN:
                    fillGrain();
                    break;
                case Tokens.HOLE:
                    fillHole();
                    break;
                case Tokens.RAT:
                    fillRat();
                    break;
                case Tokens.WANTS:
                    fillMerchant();
                    break;
                case Tokens.LAMP:
                    text.lamp = takeNumber(0, MOST_NUMBER);
                    break;
                case Tokens.ODD:
                    text.odd = takeNumber(1, MOST_HUNGER);
                    break;
                case Tokens.SEED:
                    text.seed = takeNumber(0, MOST_NUMBER);
                    break;
                default:
                    at = text.laws.write(tokens, at, word - Tokens.LOAD);
                    break;
            }
            if (fault == 0) {
                at++;
            }
        }

        private void fillGrain() {
            int grain = text.grains;
            if (grain >= MOST_GRAINS) {
                return;
            }
            takeNewName(Tokens.GRAIN, grain);
            text.poured[grain] = takeNumber(0, MOST_NUMBER);
            text.pence[grain] = takeNumber(0, MOST_PENCE);
            text.grains++;
        }

        private void fillHole() {
            int hole = text.holes;
            if (hole >= MOST_HOLES) {
                return;
            }
            takeNewName(Tokens.HOLE, hole);
            text.far[hole] = takeNumber(1, 30);
            text.owns[hole] = takeName(Tokens.GRAIN);
            text.holes++;
        }

        private void fillRat() {
            int rat = text.rats;
            if (rat >= MOST_RATS) {
                return;
            }
            takeNewName(Tokens.RAT, rat);
            text.knows[rat] = takeName(Tokens.GRAIN);
            text.holeOf[rat] = takeName(Tokens.HOLE);
            text.fat[rat] = takeNumber(0, MOST_FAT);
            text.fee[rat] = takeNumber(0, MOST_PENCE);
            text.rats++;
        }

        private void fillMerchant() {
            int merchant = text.merchants;
            if (merchant >= MOST_MERCHANTS) {
                return;
            }
            text.pays[merchant] = takeNumber(0, MOST_NUMBER);
            for (int i = 0; i < MOST_WANTS && fault == 0 && tokens.kindOf(at) == Tokens.NAME; i++) {
                int nameAt = at;
                int grain = takeName(Tokens.GRAIN);
                if (fault == 0 && text.wantOf(merchant, grain) > 0) {
                    at = nameAt;
                    fault = TWICE;
                }
                text.wants[merchant * MOST_GRAINS + grain] = takeNumber(1, MOST_NUMBER);
            }
            text.merchants++;
        }

        private void takeNewName(int sort, int number) {
            if (fault != 0 || at >= tokens.many || manyNames >= MOST_NAMES) {
                return;
            }
            for (int i = 0; i < manyNames; i++) {
                if (names[i] == tokens.values[at]) {
                    fault = TWICE;
                    return;
                }
            }
            names[manyNames] = tokens.values[at];
            sorts[manyNames] = sort;
            numbers[manyNames] = number;
            manyNames++;
            at++;
        }

        private int takeName(int sort) {
            if (fault != 0 || at >= tokens.many) {
                return 0;
            }
            for (int i = 0; i < manyNames; i++) {
                if (names[i] == tokens.values[at] && sorts[i] == sort) {
                    at++;
                    return numbers[i];
                }
            }
            fault = NAMELESS;
            return 0;
        }

        private int takeNumber(int least, int most) {
            if (fault != 0 || at >= tokens.many) {
                return 0;
            }
            int number = (int) tokens.values[at];
            if (number < least || number > most) {
                fault = WRONG;
                return 0;
            }
            at++;
            return number;
        }
    }

    /** LOAD, EATS and ERRS, each written behind one another as steps that need no brackets. */
    private static final class Laws {
        static final int LOAD = 0;
        static final int EATS = 1;
        static final int ERRS = 2;
        static final int HUNGER = 0;
        static final int FAT = 1;
        static final int MUCH = 2;
        static final int DARK = 3;
        static final int FAR = 4;
        static final int KNOW = 5;
        static final int TRIPS = 6;
        static final int MANY_VARS = 7;

        static final int[] UNTOLD = {5, 0, 0};
        /** A token makes one step at most; 'then' makes two, but its 'if' and '<' make none. */
        static final int MOST_STEPS = MOST_TOKENS;
        /** Six brackets within one another leave two operators and themselves waiting in each. */
        static final int MOST_WAITING = 32;

        /** A number, or a token's kind below 0. */
        final int[] steps = new int[MOST_STEPS];
        final int[] starts = {NONE, NONE, NONE};
        final int[] waiting = new int[MOST_WAITING];
        final int[] stack = new int[MOST_WAITING];
        int manySteps;
        int manyWaiting;
        int jump;

        void clear() {
            manySteps = 0;
            for (int law = 0; law < starts.length; law++) {
                starts[law] = NONE;
            }
        }

        /** Writes the law whose tokens begin there: where its last token is. */
        int write(Tokens tokens, int from, int law) {
            if (law < 0 || law >= starts.length) {
                return from;
            }
            starts[law] = manySteps;
            manyWaiting = 0;
            jump = manySteps;
            int at = from;
            while (at < tokens.many && tokens.kinds[at] != Tokens.SEMICOLON) {
                writeToken(tokens.kinds[at], (int) tokens.values[at]);
                at++;
            }
            writeToken(Tokens.SEMICOLON, 0);
            return at;
        }

        private void writeToken(int kind, int number) {
            switch (kind) {
                case Tokens.EQUALS:
                case Tokens.IF:
                    break;
                case Tokens.INT:
                    addStep(number);
                    break;
                case Tokens.OPEN:
                    addWaiting(kind);
                    break;
                case Tokens.CLOSE:
                    writeWaiting(0);
                    manyWaiting = Math.max(0, manyWaiting - 1);
                    break;
                case Tokens.PLUS:
                case Tokens.MINUS:
                case Tokens.TIMES:
                case Tokens.OVER:
                    writeWaiting(rankOf(kind));
                    addWaiting(kind);
                    break;
                case Tokens.LESS:
                    writeWaiting(0);
                    break;
                case Tokens.THEN:
                    writeWaiting(0);
                    addStep(-Tokens.THEN);
                    jump = manySteps;
                    addStep(0);
                    break;
                case Tokens.ELSE:
                    writeWaiting(0);
                    addStep(-Tokens.SEMICOLON);
                    if (jump < MOST_STEPS) {
                        steps[jump] = manySteps;
                    }
                    break;
                case Tokens.SEMICOLON:
                    writeWaiting(0);
                    addStep(-Tokens.SEMICOLON);
                    break;
                default:
                    if (kind >= Tokens.HUNGER && kind <= Tokens.TRIPS) {
                        addStep(-kind);
                    }
                    break;
            }
        }

        private void addStep(int step) {
            if (manySteps < MOST_STEPS) {
                steps[manySteps] = step;
                manySteps++;
            }
        }

        private void addWaiting(int kind) {
            if (manyWaiting < MOST_WAITING) {
                waiting[manyWaiting] = kind;
                manyWaiting++;
            }
        }

        /** Writes the operators that bind at least so strongly, back to the latest open bracket. */
        private void writeWaiting(int rank) {
            while (manyWaiting > 0 && waiting[manyWaiting - 1] != Tokens.OPEN
                    && rankOf(waiting[manyWaiting - 1]) >= rank) {
                manyWaiting--;
                addStep(-waiting[manyWaiting]);
            }
        }

        private static int rankOf(int kind) {
            return kind == Tokens.TIMES || kind == Tokens.OVER ? 2 : 1;
        }

        /** What a law tells, not held yet; known has what its words mean just then. */
        int valueOf(int law, int[] known) {
            int at = starts[law];
            if (at < 0) {
                return UNTOLD[law];
            }
            int top = 0;
            for (int done = 0; done < MOST_STEPS && at >= 0 && at < manySteps; done++) {
                int step = steps[at];
                at++;
                if (step == -Tokens.SEMICOLON) {
                    return top > 0 ? stack[top - 1] : 0;
                }
                boolean isVar = step <= -Tokens.HUNGER && step >= -Tokens.TRIPS;
                if (isVar || step >= 0) {
                    if (top >= MOST_WAITING) {
                        return 0;
                    }
                    stack[top] = isVar ? known[-step - Tokens.HUNGER] : step;
                    top++;
                } else {
                    if (top < 2) {
                        return 0;
                    }
                    top--;
                    int left = stack[top - 1];
                    int right = stack[top];
                    if (step == -Tokens.THEN) {
                        top--;
                        at = left < right || at >= manySteps ? at + 1 : steps[at];
                    } else if (step == -Tokens.OVER && right == 0) {
                        return 0;
                    } else {
                        stack[top - 1] = join(step, left, right);
                    }
                }
            }
            return 0;
        }

        private static int join(int step, int left, int right) {
            switch (step) {
                case -Tokens.PLUS:
                    return left + right;
                case -Tokens.MINUS:
                    return left - right;
                case -Tokens.TIMES:
                    return left * right;
                default:
                    return right == 0 ? 0 : left / right;
            }
        }
    }

    private static final class Rat {
        static final int AT_HEAP = 0;
        static final int GOING = 1;
        static final int BACK = 2;
        static final int HOME = 3;

        int where;
        int left;
        int carries;
        int carried;
        int hunger;
        int fat;
        int knows;
        int trips;
        int target;

        void begin(int grain, int fatness) {
            where = AT_HEAP;
            left = 0;
            carries = 0;
            carried = 0;
            hunger = 0;
            fat = fatness;
            knows = grain;
            trips = 0;
            target = 0;
        }

        void take(Rat other) {
            where = other.where;
            left = other.left;
            carries = other.carries;
            carried = other.carried;
            hunger = other.hunger;
            fat = other.fat;
            knows = other.knows;
            trips = other.trips;
            target = other.target;
        }
    }

    /** All that goes on: what is undone, held and gone on from is a House. */
    private static final class House {
        final int[] heap = new int[MOST_GRAINS];
        final int[] holes = new int[MOST_HOLES * MOST_GRAINS];
        final Rat[] rats = new Rat[MOST_RATS];
        int minute;
        int cat;
        int eaten;
        int coins;
        int sold;
        int quarrels;

        House() {
            for (int rat = 0; rat < MOST_RATS; rat++) {
                rats[rat] = new Rat();
            }
        }

        void begin(Text text) {
            for (int grain = 0; grain < MOST_GRAINS; grain++) {
                heap[grain] = grain < text.grains ? text.poured[grain] : 0;
            }
            for (int i = 0; i < holes.length; i++) {
                holes[i] = 0;
            }
            for (int rat = 0; rat < text.rats; rat++) {
                rats[rat].begin(text.knows[rat], text.fat[rat]);
            }
            minute = 0;
            cat = 0;
            eaten = 0;
            coins = 0;
            sold = 0;
            quarrels = 0;
        }

        void take(House other) {
            System.arraycopy(other.heap, 0, heap, 0, heap.length);
            System.arraycopy(other.holes, 0, holes, 0, holes.length);
            for (int rat = 0; rat < MOST_RATS; rat++) {
                rats[rat].take(other.rats[rat]);
            }
            minute = other.minute;
            cat = other.cat;
            eaten = other.eaten;
            coins = other.coins;
            sold = other.sold;
            quarrels = other.quarrels;
        }

        int inHole(int hole, int grain) {
            return holes[hole * MOST_GRAINS + grain];
        }

        int allInHole(int hole) {
            int all = 0;
            for (int grain = 0; grain < MOST_GRAINS; grain++) {
                all += inHole(hole, grain);
            }
            return all;
        }

        int allInHeap() {
            int all = 0;
            for (int grain = 0; grain < MOST_GRAINS; grain++) {
                all += heap[grain];
            }
            return all;
        }

        int allInHoles() {
            int all = 0;
            for (int hole = 0; hole < MOST_HOLES; hole++) {
                all += allInHole(hole);
            }
            return all;
        }

        int allCarried(Text text) {
            int all = 0;
            for (int rat = 0; rat < text.rats; rat++) {
                all += rats[rat].carries;
            }
            return all;
        }

        int misplaced(Text text) {
            int all = 0;
            for (int hole = 0; hole < text.holes; hole++) {
                all += allInHole(hole) - inHole(hole, text.owns[hole]);
            }
            return all;
        }

        int worthOf(Text text, int hole) {
            int own = inHole(hole, text.owns[hole]);
            int others = allInHole(hole) - own;
            return Math.max(0, text.pence[text.owns[hole]] * (own - 2 * others));
        }

        int allWorth(Text text) {
            int all = 0;
            for (int hole = 0; hole < text.holes; hole++) {
                all += worthOf(text, hole);
            }
            return all;
        }

        /** The RATS (bits) that are there. */
        int ratsThatAre(Text text, int where) {
            int bits = 0;
            for (int rat = 0; rat < text.rats; rat++) {
                if (rats[rat].where == where) {
                    bits |= 1 << rat;
                }
            }
            return bits;
        }

        boolean isSorted(Text text) {
            return isSortedFor(text, ~ratsThatAre(text, Rat.HOME));
        }

        /** Whether none is GOING, and nothing lies in the HEAP that one of these RATS (bits) KNOWS. */
        boolean isSortedFor(Text text, int set) {
            for (int rat = 0; rat < text.rats; rat++) {
                boolean counts = (set & 1 << rat) != 0;
                if (rats[rat].where == Rat.GOING || counts && heap[rats[rat].knows] > 0) {
                    return false;
                }
            }
            return true;
        }

        void exchange(int hole, int other) {
            for (int grain = 0; grain < MOST_GRAINS; grain++) {
                int many = inHole(hole, grain);
                holes[hole * MOST_GRAINS + grain] = inHole(other, grain);
                holes[other * MOST_GRAINS + grain] = many;
            }
        }

        void sendHome(int number) {
            Rat rat = rats[number];
            heap[rat.carried] += rat.carries;
            rat.carries = 0;
            rat.left = 0;
            rat.where = Rat.HOME;
        }

        void callBack(int number) {
            rats[number].where = Rat.AT_HEAP;
        }

        /** Whether all these MERCHANTS (bits) can be sold to. */
        boolean hasFor(Text text, int merchants) {
            for (int grain = 0; grain < text.grains; grain++) {
                int wanted = 0;
                for (int merchant = 0; merchant < text.merchants; merchant++) {
                    wanted += (merchants & 1 << merchant) != 0 ? text.wantOf(merchant, grain) : 0;
                }
                int there = 0;
                for (int hole = 0; hole < text.holes; hole++) {
                    there += text.owns[hole] == grain ? inHole(hole, grain) : 0;
                }
                if (wanted > there) {
                    return false;
                }
            }
            return true;
        }

        void handOver(Text text, int merchant) {
            for (int grain = 0; grain < text.grains; grain++) {
                int wanted = text.wantOf(merchant, grain);
                for (int hole = 0; hole < text.holes; hole++) {
                    int taken = text.owns[hole] == grain ? Math.min(wanted, inHole(hole, grain)) : 0;
                    holes[hole * MOST_GRAINS + grain] -= taken;
                    wanted -= taken;
                }
            }
            coins += text.pays[merchant];
            sold |= 1 << merchant;
        }
    }

    /** Lets minutes go by in a House. */
    private static final class Mill {
        Text text;
        /** Of its own, since what would be is asked for other ways and other seeds than the text's. */
        final int[] far = new int[MOST_HOLES];
        int seed;
        final int[] known = new int[Laws.MANY_VARS];
        /** The GRAINS (bits) that were loaded of in this MINUTE. */
        int loaded;

        Mill(Text told) {
            text = told;
        }

        void use(Text told) {
            text = told;
            seed = told.seed;
            System.arraycopy(told.far, 0, far, 0, far.length);
        }

        void exchangeFar(int hole, int other) {
            int former = far[hole];
            far[hole] = far[other];
            far[other] = former;
        }

        void goOn(House house, int n) {
            int rest = n;
            while (rest > 0) {
                int quiet = quietMinutes(house, rest);
                if (quiet > 0) {
                    skip(house, quiet);
                    rest -= quiet;
                } else {
                    goMinute(house);
                    rest--;
                }
            }
        }

        void goMinute(House house) {
            loaded = 0;
            for (int number = 0; number < text.rats; number++) {
                Rat rat = house.rats[number];
                if (rat.where == Rat.HOME) {
                    continue;
                }
                rat.hunger = Math.min(MOST_HUNGER, rat.hunger + 1);
                if (rat.where == Rat.AT_HEAP) {
                    beAtHeap(house, rat, number);
                } else {
                    walk(house, rat);
                }
            }
            house.cat = Math.max(0, house.cat - 1);
            house.minute++;
        }

        private void beAtHeap(House house, Rat rat, int number) {
            boolean works = house.minute < text.lamp && house.cat == 0 && house.heap[rat.knows] > 0;
            if (!works) {
                if (rat.hunger >= text.odd) {
                    nibble(house, rat);
                }
            } else if ((loaded & 1 << rat.knows) != 0) {
                house.quarrels++;
            } else {
                load(house, rat, number);
            }
        }

        private void nibble(House house, Rat rat) {
            int most = 0;
            for (int grain = 1; grain < text.grains; grain++) {
                if (house.heap[grain] > house.heap[most]) {
                    most = grain;
                }
            }
            if (house.heap[most] > 0) {
                house.heap[most]--;
                house.eaten++;
                rat.hunger = 0;
            }
        }

        private void load(House house, Rat rat, int number) {
            int hole = text.holeOf[number];
            int much = house.heap[rat.knows];
            know(house, rat, hole);
            known[Laws.MUCH] = much;
            int load = Math.max(1, Math.min(MOST_LOAD, text.laws.valueOf(Laws.LOAD, known)));
            int taken = Math.min(load, much);
            known[Laws.MUCH] = taken;
            int eats = Math.max(0, Math.min(taken, text.laws.valueOf(Laws.EATS, known)));
            if (eats > 0) {
                rat.hunger = 0;
            }
            known[Laws.MUCH] = much;
            known[Laws.HUNGER] = rat.hunger;
            int errs = text.laws.valueOf(Laws.ERRS, known);
            boolean strays = lot(100, seed, 8 * house.minute + number) < errs;
            loaded |= 1 << rat.knows;
            house.heap[rat.knows] -= taken;
            house.eaten += eats;
            rat.carries = taken - eats;
            rat.carried = rat.knows;
            rat.target = !strays ? hole : hole + 1 < text.holes ? hole + 1 : 0;
            rat.where = Rat.GOING;
            rat.left = far[rat.target];
        }

        private void know(House house, Rat rat, int hole) {
            known[Laws.HUNGER] = rat.hunger;
            known[Laws.FAT] = rat.fat;
            known[Laws.DARK] = Math.max(0, text.lamp - house.minute);
            known[Laws.FAR] = far[hole];
            known[Laws.KNOW] = rat.knows;
            known[Laws.TRIPS] = rat.trips;
        }

        private void walk(House house, Rat rat) {
            rat.left--;
            if (rat.left > 0) {
                return;
            }
            if (rat.where == Rat.BACK) {
                rat.where = Rat.AT_HEAP;
                return;
            }
            house.holes[rat.target * MOST_GRAINS + rat.carried] += rat.carries;
            rat.trips += rat.carries > 0 ? 1 : 0;
            rat.carries = 0;
            rat.where = Rat.BACK;
            rat.left = far[rat.target];
        }

        private static int lot(int n, int seed, int which) {
            int h = stir(stir(seed, 39), which);
            return n > 0 ? (h >>> 1) % n : 0;
        }

        private static int stir(int h, int other) {
            int stirred = (h ^ other) * 1103515245 + 12345;
            return stirred ^ (stirred >>> 15);
        }

        /** For how many MINUTES from now on, so many at most, RATS only walk, wait and get hungry. */
        private int quietMinutes(House house, int most) {
            int quiet = most;
            for (int number = 0; number < text.rats && quiet > 0; number++) {
                Rat rat = house.rats[number];
                if (rat.where == Rat.AT_HEAP) {
                    quiet = Math.min(quiet, waits(house, rat, quiet));
                } else if (rat.where != Rat.HOME) {
                    quiet = Math.min(quiet, rat.left - 1);
                }
            }
            return quiet;
        }

        private int waits(House house, Rat rat, int most) {
            boolean catMatters = house.minute < text.lamp && house.heap[rat.knows] > 0;
            int waits = catMatters ? Math.min(most, house.cat) : most;
            int tillOdd = text.odd - 1 - rat.hunger;
            return tillOdd < waits && house.allInHeap() > 0 ? tillOdd : waits;
        }

        private void skip(House house, int n) {
            for (int number = 0; number < text.rats; number++) {
                Rat rat = house.rats[number];
                if (rat.where != Rat.HOME) {
                    rat.hunger = Math.min(MOST_HUNGER, rat.hunger + n);
                    rat.left = Math.max(0, rat.left - n);
                }
            }
            house.cat = Math.max(0, house.cat - n);
            house.minute += n;
        }
    }

    /** What would be: each search leaves what it found in choice and value. */
    private static final class Planner {
        final House spare = new House();
        final House walker = new House();
        int choice;
        int value;
        /** The latest TAUGHT, kept till something is done, since each RAT of it is asked for. */
        int waySet;
        int wayMinutes;
        int way;
        int wayWorth;

        void dropWays() {
            waySet = 0;
        }

        House ahead(Mill mill, House now, int n) {
            spare.take(now);
            mill.goOn(spare, n);
            return spare;
        }

        int cleanBy(Mill mill, House now, int most) {
            spare.take(now);
            for (int n = 0; n <= most; n++) {
                if (spare.isSorted(mill.text)) {
                    return n;
                }
                mill.goMinute(spare);
            }
            return NOT;
        }

        int starvesBy(Mill mill, House now, int rat) {
            spare.take(now);
            for (int n = 0; n <= MOST_MINUTES; n++) {
                if (spare.rats[rat].hunger >= MOST_HUNGER) {
                    return n;
                }
                mill.goMinute(spare);
            }
            return NOT;
        }

        int misplacedOf(Mill mill, House now, int seeds, int n) {
            int all = 0;
            for (int i = 0; i < seeds; i++) {
                mill.seed = mill.text.seed + i;
                spare.take(now);
                mill.goOn(spare, n);
                all += spare.misplaced(mill.text);
            }
            mill.seed = mill.text.seed;
            return all;
        }

        void seekHired(Mill mill, House now, int n) {
            choice = NOT;
            value = NOT;
            for (int set = 0; set < 1 << mill.text.rats; set++) {
                int fees = feesOf(mill.text, set);
                if (isCheaper(set, fees)) {
                    spare.take(now);
                    keepOnly(mill.text, set);
                    mill.goOn(spare, n);
                    if (spare.isSortedFor(mill.text, ~0)) {
                        choice = set;
                        value = fees;
                    }
                }
            }
        }

        private boolean isCheaper(int set, int fees) {
            return choice == NOT || fees < value
                    || fees == value && Integer.bitCount(set) < Integer.bitCount(choice);
        }

        private static int feesOf(Text text, int set) {
            int fees = 0;
            for (int rat = 0; rat < text.rats; rat++) {
                fees += (set & 1 << rat) != 0 ? text.fee[rat] : 0;
            }
            return fees;
        }

        private void keepOnly(Text text, int set) {
            for (int rat = 0; rat < text.rats; rat++) {
                boolean stays = (set & 1 << rat) != 0;
                boolean isHome = spare.rats[rat].where == Rat.HOME;
                if (stays && isHome) {
                    spare.callBack(rat);
                } else if (!stays && !isHome) {
                    spare.sendHome(rat);
                }
            }
        }

        /** A way is a number whose digits, as many as there are GRAINS, are the RATS' GRAINS. */
        void seekWay(Mill mill, House now, int set, int n) {
            if (waySet == set && wayMinutes == n) {
                return;
            }
            int grains = mill.text.grains;
            int ways = 1;
            for (int i = 0; i < Integer.bitCount(set); i++) {
                ways *= grains;
            }
            waySet = set;
            wayMinutes = n;
            wayWorth = NONE;
            for (int tried = 0; tried < ways; tried++) {
                spare.take(now);
                teachWay(grains, set, tried);
                mill.goOn(spare, n);
                int worth = spare.allWorth(mill.text);
                if (worth > wayWorth) {
                    wayWorth = worth;
                    way = tried;
                }
            }
        }

        private void teachWay(int grains, int set, int tried) {
            int rest = tried;
            for (int rat = MOST_RATS - 1; rat >= 0; rat--) {
                if ((set & 1 << rat) != 0 && grains > 0) {
                    spare.rats[rat].knows = rest % grains;
                    rest /= grains;
                }
            }
        }

        int grainOf(int i, int grains) {
            int rest = way;
            for (int last = Integer.bitCount(waySet) - 1; last > i && grains > 0; last--) {
                rest /= grains;
            }
            return grains > 0 ? rest % grains : NONE;
        }

        void seekSwap(Mill mill, House now) {
            choice = NOT;
            value = cleanBy(mill, now, MOST_MINUTES);
            for (int hole = 0; hole < mill.text.holes; hole++) {
                for (int other = hole + 1; other < mill.text.holes; other++) {
                    mill.exchangeFar(hole, other);
                    int by = cleanBy(mill, now, value == NOT ? MOST_MINUTES : value - 1);
                    mill.exchangeFar(hole, other);
                    if (by != NOT) {
                        choice = 10 * hole + other;
                        value = by;
                    }
                }
            }
        }

        void seekMissed(Mill mill, House now, int n) {
            choice = NOT;
            value = NOT;
            for (int rat = 0; rat < mill.text.rats; rat++) {
                if (now.rats[rat].where == Rat.HOME) {
                    continue;
                }
                spare.take(now);
                spare.sendHome(rat);
                mill.goOn(spare, n);
                int worth = spare.allWorth(mill.text);
                if (choice == NOT || worth < value) {
                    choice = rat;
                    value = worth;
                }
            }
        }

        void seekCat(Mill mill, House now, int n) {
            choice = NONE;
            value = NONE;
            walker.take(now);
            for (int start = 0; start < n; start++) {
                spare.take(walker);
                spare.cat += PLANNED_CAT;
                mill.goOn(spare, n + PLANNED_CAT - start);
                int worth = spare.allWorth(mill.text);
                if (worth > value) {
                    choice = start;
                    value = worth;
                }
                mill.goMinute(walker);
            }
        }

        void seekSales(Text text, House now) {
            choice = 0;
            value = 0;
            for (int set = 1; set < 1 << text.merchants; set++) {
                int pays = 0;
                for (int merchant = 0; merchant < text.merchants; merchant++) {
                    pays += (set & 1 << merchant) != 0 ? text.pays[merchant] : 0;
                }
                if ((set & now.sold) == 0 && pays > value && now.hasFor(text, set)) {
                    choice = set;
                    value = pays;
                }
            }
        }
    }

    /** What is TOLD, and the JOKES that it leaves. */
    private static final class Facts {
        static final int CELLS = MOST_HOLES * MOST_GRAINS;

        final int[] holes = new int[MOST_TOLD];
        final int[] grains = new int[MOST_TOLD];
        final int[] behind = new int[MOST_TOLD];
        final int[] amounts = new int[MOST_TOLD];
        /** What was in the HOLES behind each MINUTE of the text, as no swap changes how RATS go. */
        final int[] seen = new int[(MOST_TOLD_MINUTES + 1) * CELLS];
        final House watched = new House();
        boolean isSeen;
        int many;

        void clear() {
            many = 0;
            isSeen = false;
        }

        int note(int hole, int grain, int n, int amount) {
            if (many >= MOST_TOLD) {
                return NONE;
            }
            holes[many] = hole;
            grains[many] = grain;
            behind[many] = n;
            amounts[many] = amount;
            many++;
            return many - 1;
        }

        void watch(Mill mill) {
            if (isSeen) {
                return;
            }
            isSeen = true;
            watched.begin(mill.text);
            for (int n = 0; n <= MOST_TOLD_MINUTES; n++) {
                System.arraycopy(watched.holes, 0, seen, n * CELLS, CELLS);
                mill.goMinute(watched);
            }
        }

        /** The i-th joke as KNOWN by k, or how many there are (i NONE). */
        int seekJoke(int manyHoles, int k, int i) {
            int found = 0;
            if (fits(k, NONE, NONE, 0)) {
                if (i == 0) {
                    return NO_JOKE;
                }
                found++;
            }
            for (int hole = 0; hole < manyHoles; hole++) {
                for (int other = hole + 1; other < manyHoles; other++) {
                    for (int n = 0; n <= MOST_JOKE_MINUTES; n++) {
                        if (fits(k, hole, other, n)) {
                            if (i == found) {
                                return 1000 * hole + 100 * other + n;
                            }
                            found++;
                        }
                    }
                }
            }
            return i == NONE ? found : NONE;
        }

        private boolean fits(int k, int hole, int other, int n) {
            for (int fact = 0; fact < k; fact++) {
                int asked = holes[fact];
                int amount = seenIn(asked, fact, behind[fact]);
                if (behind[fact] >= n && (asked == hole || asked == other)) {
                    int partner = asked == hole ? other : hole;
                    amount += seenIn(partner, fact, n) - seenIn(asked, fact, n);
                }
                if (amount != amounts[fact]) {
                    return false;
                }
            }
            return true;
        }

        private int seenIn(int hole, int fact, int n) {
            return seen[n * CELLS + hole * MOST_GRAINS + grains[fact]];
        }
    }
}
