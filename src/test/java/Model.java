import java.util.ArrayList;
import java.util.Arrays;
import java.util.HashMap;
import java.util.HashSet;
import java.util.List;
import java.util.Map;
import java.util.Set;

/**
 * The document once more, as plainly as can be and without a thought for speed: the random runs
 * compare RatSorters with it. It shares no code and no way of working with the class.
 */
final class Model {
    static final class Fault extends RuntimeException {
        final int number;
        final int place;

        Fault(int number, int place) {
            super(null, null, false, false);
            this.number = number;
            this.place = place;
        }
    }

    record Token(String kind, String text, int place) { }

    /** A tree of a LAW; a division by 0 that is looked at throws ArithmeticException, as Java does. */
    interface Tree {
        int value(Map<String, Integer> words);
    }

    static final class Grain { String name; int poured; int pence; }

    static final class Hole { String name; int far; int grain; }

    static final class Teller { String name; int knows; int hole; int fat; int fee; }

    static final class Merchant { int pays; Map<Integer, Integer> wants = new HashMap<>(); }

    static final class Told { int hole; int grain; int n; int many; }

    static final class World {
        List<Grain> grains = new ArrayList<>();
        List<Hole> holes = new ArrayList<>();
        List<Teller> rats = new ArrayList<>();
        List<Merchant> merchants = new ArrayList<>();
        Tree load = w -> 5;
        Tree eats = w -> 0;
        Tree errs = w -> 0;
        int lamp = 9999;
        int odd = 50;
        int seed = 0;
    }

    static final class Sorter implements Cloneable {
        String where = "heap";
        int left; int carries; int carried; int hunger; int fat; int knows; int trips; int to; int hole;

        Sorter copy() {
            try {
                return (Sorter) clone();
            } catch (CloneNotSupportedException e) {
                throw new IllegalStateException(e);
            }
        }
    }

    static final class State {
        int[] heap;
        int[][] holes;
        int[] far;
        List<Sorter> rats = new ArrayList<>();
        Set<Integer> sold = new HashSet<>();
        int minute; int cat; int eaten; int coins; int quarrels; int seed;

        State copy() {
            State s = new State();
            s.heap = heap.clone();
            s.far = far.clone();
            s.holes = new int[holes.length][];
            for (int h = 0; h < holes.length; h++) s.holes[h] = holes[h].clone();
            for (Sorter r : rats) s.rats.add(r.copy());
            s.sold.addAll(sold);
            s.minute = minute; s.cat = cat; s.eaten = eaten; s.coins = coins; s.quarrels = quarrels; s.seed = seed;
            return s;
        }
    }

    // ---- reading ----

    static final Set<String> WORDS = Set.of("grain", "hole", "rat", "load", "eats", "errs", "wants", "lamp", "odd",
            "seed", "if", "then", "else", "hunger", "fat", "much", "dark", "far", "know", "trips");
    static final Set<String> VARS = Set.of("hunger", "fat", "much", "dark", "far", "know", "trips");

    static List<Token> split(String text) {
        List<Token> all = new ArrayList<>();
        int i = 0;
        while (i < text.length()) {
            char c = text.charAt(i);
            if ("\t\n\r ".indexOf(c) >= 0) { i++; continue; }
            int j = i;
            String kind;
            if (c >= 'a' && c <= 'z') {
                while (j < text.length() && text.charAt(j) >= 'a' && text.charAt(j) <= 'z') j++;
                String word = text.substring(i, j);
                kind = WORDS.contains(word) ? word : word.length() <= 8 ? "NAME" : "bad";
            } else if (c >= '0' && c <= '9') {
                while (j < text.length() && text.charAt(j) >= '0' && text.charAt(j) <= '9') j++;
                kind = j - i <= 4 ? "INT" : "bad";
            } else {
                j = i + 1;
                kind = ";=+-*/<()".indexOf(c) >= 0 ? String.valueOf(c) : "bad";
            }
            all.add(new Token(kind, text.substring(i, j), i));
            i = j;
        }
        all.add(new Token("end", "", text.length()));
        return all;
    }

    /** Goes through tokens by recursive descent; in the first round for shape alone, in the second for meaning. */
    static final class Descent {
        final List<Token> tokens;
        final boolean meaning;
        int at = 0;
        final World world = new World();
        final Map<String, int[]> names = new HashMap<>(); // sort 0 grain, 1 hole, 2 rat; number
        int grains; int holes; int rats; int merchants; int open;

        Descent(List<Token> tokens, boolean meaning) {
            this.tokens = tokens;
            this.meaning = meaning;
        }

        Token look() { return tokens.get(at); }

        boolean sees(String kind) { return look().kind().equals(kind); }

        Token eat(String... kinds) {
            Token t = look();
            if (!Arrays.asList(kinds).contains(t.kind())) throw new Fault(1, t.place());
            if (at == 400) throw new Fault(2, t.place());
            at++;
            return t;
        }

        int number(int least, int most) {
            Token t = eat("INT");
            int n = Integer.parseInt(t.text());
            if (meaning && (n < least || n > most)) throw new Fault(5, t.place());
            return n;
        }

        String fresh(int sort, int number) {
            Token t = eat("NAME");
            if (meaning) {
                if (names.containsKey(t.text())) throw new Fault(3, t.place());
                names.put(t.text(), new int[] {sort, number});
            }
            return t.text();
        }

        int known(int sort) {
            Token t = eat("NAME");
            if (!meaning) return 0;
            int[] known = names.get(t.text());
            if (known == null || known[0] != sort) throw new Fault(4, t.place());
            return known[1];
        }

        void room(Token t, boolean there) {
            if (!there) throw new Fault(2, t.place());
        }

        World text() {
            while (!sees("end")) tell();
            return world;
        }

        void tell() {
            Token t = eat("grain", "hole", "rat", "load", "eats", "errs", "wants", "lamp", "odd", "seed");
            if (t.kind().equals("grain")) {
                room(t, ++grains <= 6);
                Grain g = new Grain();
                g.name = fresh(0, grains - 1);
                g.poured = number(0, 9999);
                g.pence = number(0, 99);
                world.grains.add(g);
            } else if (t.kind().equals("hole")) {
                room(t, ++holes <= 6);
                Hole h = new Hole();
                h.name = fresh(1, holes - 1);
                h.far = number(1, 30);
                h.grain = known(0);
                world.holes.add(h);
            } else if (t.kind().equals("rat")) {
                room(t, ++rats <= 8);
                Teller r = new Teller();
                r.name = fresh(2, rats - 1);
                r.knows = known(0);
                r.hole = known(1);
                r.fat = number(0, 9);
                r.fee = number(0, 99);
                world.rats.add(r);
            } else if (t.kind().equals("wants")) {
                room(t, ++merchants <= 5);
                world.merchants.add(merchant());
            } else if (t.kind().equals("lamp")) {
                world.lamp = number(0, 9999);
            } else if (t.kind().equals("odd")) {
                world.odd = number(1, 99);
            } else if (t.kind().equals("seed")) {
                world.seed = number(0, 9999);
            } else {
                eat("=");
                Tree law = law(0);
                if (t.kind().equals("load")) world.load = law;
                if (t.kind().equals("eats")) world.eats = law;
                if (t.kind().equals("errs")) world.errs = law;
            }
            eat(";");
        }

        Merchant merchant() {
            Merchant m = new Merchant();
            m.pays = number(0, 9999);
            int wants = 0;
            while (sees("NAME")) {
                Token t = look();
                if (at == 400) throw new Fault(2, t.place());
                room(t, ++wants <= 4);
                int grain = known(0);
                if (meaning && m.wants.containsKey(grain)) throw new Fault(3, t.place());
                m.wants.put(grain, number(1, 9999));
            }
            return m;
        }

        Tree law(int ifs) {
            if (!sees("if")) return sum();
            Token t = eat("if");
            room(t, ifs < 4);
            Tree one = sum();
            eat("<");
            Tree other = sum();
            eat("then");
            Tree yes = sum();
            eat("else");
            Tree no = law(ifs + 1);
            return w -> one.value(w) < other.value(w) ? yes.value(w) : no.value(w);
        }

        Tree sum() {
            Tree sum = part();
            while (sees("+") || sees("-")) {
                boolean plus = eat("+", "-").kind().equals("+");
                Tree a = sum;
                Tree b = part();
                sum = plus ? w -> a.value(w) + b.value(w) : w -> a.value(w) - b.value(w);
            }
            return sum;
        }

        Tree part() {
            Tree part = unit();
            while (sees("*") || sees("/")) {
                boolean times = eat("*", "/").kind().equals("*");
                Tree a = part;
                Tree b = unit();
                part = times ? w -> a.value(w) * b.value(w) : w -> a.value(w) / b.value(w);
            }
            return part;
        }

        Tree unit() {
            if (sees("INT")) {
                int n = Integer.parseInt(eat("INT").text());
                return w -> n;
            }
            if (VARS.contains(look().kind())) {
                String var = eat(look().kind()).kind();
                return w -> w.get(var);
            }
            Token t = eat("(");
            room(t, ++open <= 6);
            Tree inside = sum();
            eat(")");
            open--;
            return inside;
        }
    }

    // ---- what is held ----

    World world = new World();
    State now;
    final List<State> past = new ArrayList<>();
    final State[] slots = new State[3];
    final List<Told> told = new ArrayList<>();
    String tape = "";
    int place = -1;

    Model() {
        now = start();
    }

    State start() {
        State s = new State();
        s.heap = new int[world.grains.size()];
        s.holes = new int[world.holes.size()][world.grains.size()];
        s.far = new int[world.holes.size()];
        s.seed = world.seed;
        for (int g = 0; g < s.heap.length; g++) s.heap[g] = world.grains.get(g).poured;
        for (int h = 0; h < s.far.length; h++) s.far[h] = world.holes.get(h).far;
        for (Teller t : world.rats) {
            Sorter r = new Sorter();
            r.knows = t.knows;
            r.hole = t.hole;
            r.fat = t.fat;
            s.rats.add(r);
        }
        return s;
    }

    int feed(int... fives) {
        if (tape.length() + 20 > 2000) return -1;
        StringBuilder b = new StringBuilder(tape);
        for (int five : fives) {
            for (int i = 0; i < 4; i++) {
                b.append((char) (five >> (24 - 8 * i) & 255));
            }
        }
        tape = b.toString();
        return tape.length();
    }

    int back(int n) {
        if (n < 0 || n > tape.length()) return -1;
        tape = tape.substring(0, tape.length() - n);
        return tape.length();
    }

    int read() {
        String text = tape;
        tape = "";
        place = -1;
        try {
            List<Token> tokens = split(text);
            new Descent(tokens, false).text();
            world = new Descent(tokens, true).text();
        } catch (Fault f) {
            place = f.place;
            return f.number;
        }
        now = start();
        past.clear();
        told.clear();
        Arrays.fill(slots, null);
        return 0;
    }

    // ---- minutes ----

    static int lot(int n, int seed, int which) {
        long h = seed;
        for (long it : new long[] {39, which}) {
            h = ((h ^ it) & 0xffffffffL) * 1103515245L + 12345L & 0xffffffffL;
            h = h ^ h >> 15;
        }
        return (int) ((h >> 1) % n);
    }

    static int law(Tree law, Map<String, Integer> words, int least, int most) {
        int value;
        try {
            value = law.value(words);
        } catch (ArithmeticException e) {
            value = 0;
        }
        return Math.min(most, Math.max(least, value));
    }

    void minute(State s) {
        Set<Integer> loaded = new HashSet<>();
        for (int i = 0; i < s.rats.size(); i++) {
            Sorter r = s.rats.get(i);
            if (r.where.equals("home")) continue;
            if (r.hunger < 99) r.hunger++;
            if (r.where.equals("going")) {
                if (--r.left == 0) {
                    s.holes[r.to][r.carried] += r.carries;
                    if (r.carries > 0) r.trips++;
                    r.carries = 0;
                    r.where = "back";
                    r.left = s.far[r.to];
                }
            } else if (r.where.equals("back")) {
                if (--r.left == 0) r.where = "heap";
            } else if (s.minute < world.lamp && s.cat == 0 && s.heap[r.knows] > 0) {
                if (loaded.contains(r.knows)) {
                    s.quarrels++;
                } else {
                    loaded.add(r.knows);
                    load(s, r, i);
                }
            } else if (r.hunger >= world.odd) {
                int best = -1;
                for (int g = 0; g < s.heap.length; g++) {
                    if (s.heap[g] > 0 && (best < 0 || s.heap[g] > s.heap[best])) best = g;
                }
                if (best >= 0) {
                    s.heap[best]--;
                    s.eaten++;
                    r.hunger = 0;
                }
            }
        }
        if (s.cat > 0) s.cat--;
        s.minute++;
    }

    void load(State s, Sorter r, int i) {
        Map<String, Integer> words = new HashMap<>();
        int much = s.heap[r.knows];
        words.put("hunger", r.hunger);
        words.put("fat", r.fat);
        words.put("much", much);
        words.put("dark", Math.max(0, world.lamp - s.minute));
        words.put("far", s.far[r.hole]);
        words.put("know", r.knows);
        words.put("trips", r.trips);
        int loads = Math.min(much, law(world.load, words, 1, 99));
        words.put("much", loads);
        int eats = Math.min(loads, law(world.eats, words, 0, 99));
        if (eats > 0) r.hunger = 0;
        words.put("hunger", r.hunger);
        words.put("much", much);
        int errs = law(world.errs, words, 0, 100);
        r.to = r.hole;
        if (lot(100, s.seed, 8 * s.minute + i) < errs) r.to = (r.hole + 1) % s.far.length;
        s.heap[r.knows] -= loads;
        s.eaten += eats;
        r.carries = loads - eats;
        r.carried = r.knows;
        r.where = "going";
        r.left = s.far[r.to];
    }

    State later(State from, int n) {
        State s = from.copy();
        for (int i = 0; i < n; i++) minute(s);
        return s;
    }

    // ---- what is asked of a state ----

    int worth(State s, int hole) {
        int own = world.holes.get(hole).grain;
        int worth = 0;
        for (int g = 0; g < s.heap.length; g++) {
            worth += s.holes[hole][g] * world.grains.get(own).pence * (g == own ? 1 : -2);
        }
        return Math.max(0, worth);
    }

    int worth(State s) {
        int all = 0;
        for (int h = 0; h < s.far.length; h++) all += worth(s, h);
        return all;
    }

    int inHoles(State s, boolean theirs) {
        int all = 0;
        for (int h = 0; h < s.far.length; h++) {
            for (int g = 0; g < s.heap.length; g++) {
                if ((world.holes.get(h).grain == g) == theirs) all += s.holes[h][g];
            }
        }
        return all;
    }

    boolean clean(State s, boolean ofAll) {
        for (Sorter r : s.rats) {
            if (r.where.equals("going")) return false;
            if ((ofAll || !r.where.equals("home")) && s.heap[r.knows] > 0) return false;
        }
        return true;
    }

    int cleanBy(State from) {
        State s = from.copy();
        for (int n = 0; n <= 600; n++) {
            if (clean(s, false)) return n;
            minute(s);
        }
        return -2;
    }

    void send(State s, int rat, boolean home) {
        Sorter r = s.rats.get(rat);
        if (r.where.equals("home") == home) return;
        if (home && r.carries > 0) s.heap[r.carried] += r.carries;
        r.carries = 0;
        r.left = 0;
        r.where = home ? "home" : "heap";
    }

    boolean enough(State s, Set<Integer> merchants) {
        for (int g = 0; g < s.heap.length; g++) {
            int due = 0;
            for (int m : merchants) due += world.merchants.get(m).wants.getOrDefault(g, 0);
            for (int h = 0; h < s.far.length; h++) {
                if (world.holes.get(h).grain == g) due -= s.holes[h][g];
            }
            if (due > 0) return false;
        }
        return true;
    }

    // ---- the face ----

    boolean grain(int g) { return g >= 0 && g < world.grains.size(); }

    boolean hole(int h) { return h >= 0 && h < world.holes.size(); }

    boolean rat(int r) { return r >= 0 && r < world.rats.size(); }

    static boolean in(int n, int least, int most) { return n >= least && n <= most; }

    void doing() {
        past.add(now.copy());
        if (past.size() > 40) past.remove(0);
    }

    int heap(int g) { return grain(g) ? now.heap[g] : -1; }

    int hole(int h, int g) { return hole(h) && grain(g) ? now.holes[h][g] : -1; }

    int rat(int i, int what) {
        if (!rat(i) || !in(what, 0, 8)) return -1;
        Sorter r = now.rats.get(i);
        return new int[] {List.of("heap", "going", "back", "home").indexOf(r.where), r.left, r.carries,
            r.carries == 0 ? -2 : r.carried, r.hunger, r.fat, r.knows, r.trips,
            r.where.equals("going") ? r.to : -2}[what];
    }

    int worth(int h) { return hole(h) ? worth(now, h) : -1; }

    int pure(int h, boolean below) {
        if (!hole(h)) return -1;
        int all = Arrays.stream(now.holes[h]).sum();
        int own = now.holes[h].length == 0 ? 0 : now.holes[h][world.holes.get(h).grain];
        if (all == 0) return below ? 1 : 0;
        for (int d = all; d > 1; d--) {
            if (all % d == 0 && own % d == 0) {
                return below ? all / d : own / d;
            }
        }
        return below ? all : own;
    }

    int minutes(int n) {
        if (!in(n, 0, 600)) return -1;
        if (n > 0) {
            doing();
            now = later(now, n);
        }
        return now.minute;
    }

    int pour(int g, int n) {
        if (!grain(g) || n < 1 || (long) n + now.heap[g] > 9999) return -1;
        doing();
        return now.heap[g] += n;
    }

    boolean swap(int a, int b) {
        if (!hole(a) || !hole(b) || a == b) return false;
        doing();
        int[] c = now.holes[a];
        now.holes[a] = now.holes[b];
        now.holes[b] = c;
        return true;
    }

    boolean teach(int r, int g) {
        if (!rat(r) || !grain(g) || now.rats.get(r).knows == g) return false;
        doing();
        now.rats.get(r).knows = g;
        return true;
    }

    boolean give(int r, int g, int n) {
        if (!rat(r) || !grain(g) || n < 1 || n > now.heap[g] || !now.rats.get(r).where.equals("heap")) return false;
        doing();
        Sorter s = now.rats.get(r);
        now.heap[g] -= n;
        now.eaten += n;
        s.hunger = 0;
        s.fat = Math.min(9, s.fat + 1);
        return true;
    }

    boolean send(int r, boolean home) {
        if (!rat(r) || now.rats.get(r).where.equals("home") == home) return false;
        doing();
        send(now, r, home);
        return true;
    }

    int cat(int n) {
        if (!in(n, 1, 99) || now.cat + n > 999) return -1;
        doing();
        return now.cat += n;
    }

    boolean sell(int m) {
        if (!in(m, 0, world.merchants.size() - 1) || now.sold.contains(m) || !enough(now, Set.of(m))) return false;
        doing();
        Merchant merchant = world.merchants.get(m);
        merchant.wants.forEach((g, many) -> {
            for (int i = 0; i < many; i++) {
                for (int h = 0; h < now.far.length; h++) {
                    if (world.holes.get(h).grain == g && now.holes[h][g] > 0) {
                        now.holes[h][g]--;
                        break;
                    }
                }
            }
        });
        now.coins += merchant.pays;
        now.sold.add(m);
        return true;
    }

    boolean undo() {
        if (past.isEmpty()) return false;
        now = past.remove(past.size() - 1);
        return true;
    }

    boolean isClean() { return clean(now, false); }

    int clean() { return cleanBy(now); }

    int then(int n, int what) {
        if (!in(n, 0, 600) || !in(what, 0, 5)) return -1;
        State s = later(now, n);
        return new int[] {worth(s), s.eaten, Arrays.stream(s.heap).sum(), inHoles(s, true), inHoles(s, false),
            s.quarrels}[what];
    }

    int lies(int n, int h, int g) {
        if (!in(n, 0, 600) || h != -1 && !hole(h) || !grain(g)) return -1;
        State s = later(now, n);
        return h == -1 ? s.heap[g] : s.holes[h][g];
    }

    int hire(int n, int what) {
        if (!in(n, 1, 300) || !in(what, 0, 1)) return -1;
        int[] best = null;
        for (int set = 0; set < 1 << now.rats.size(); set++) {
            State s = now.copy();
            int fees = 0;
            for (int r = 0; r < s.rats.size(); r++) {
                boolean hired = (set >> r & 1) == 1;
                send(s, r, !hired);
                if (hired) fees += world.rats.get(r).fee;
            }
            int[] key = {fees, Integer.bitCount(set), set};
            if ((best == null || Arrays.compare(key, best) < 0) && clean(later(s, n), true)) best = key;
        }
        return best == null ? -2 : best[2 * what];
    }

    int[] ways(int set, int n) {
        List<Integer> rats = new ArrayList<>();
        for (int r = 0; r < 31; r++) {
            if ((set >> r & 1) == 1) rats.add(r);
        }
        if (set < 1 || !in(rats.size(), 1, 4) || !rat(rats.get(rats.size() - 1)) || !in(n, 1, 300)) return null;
        int[] best = new int[rats.size() + 1];
        best[rats.size()] = -1;
        ways(now, rats, 0, n, new int[rats.size()], best);
        return best;
    }

    void ways(State from, List<Integer> rats, int i, int n, int[] way, int[] best) {
        if (i == rats.size()) {
            int worth = worth(later(from, n));
            if (worth > best[i]) {
                System.arraycopy(way, 0, best, 0, i);
                best[i] = worth;
            }
            return;
        }
        for (int g = 0; g < from.heap.length; g++) {
            State s = from.copy();
            s.rats.get(rats.get(i)).knows = g;
            way[i] = g;
            ways(s, rats, i + 1, n, way, best);
        }
    }

    int taught(int set, int n) {
        int[] best = ways(set, n);
        return best == null ? -1 : best[best.length - 1];
    }

    int taughtAt(int set, int n, int i) {
        int[] best = ways(set, n);
        return best == null || !in(i, 0, best.length - 2) ? -1 : best[i];
    }

    int bestSwap(int what) {
        if (!in(what, 0, 1)) return -1;
        int by = cleanBy(now);
        int pair = -2;
        for (int a = 0; a < now.far.length; a++) {
            for (int b = a + 1; b < now.far.length; b++) {
                State s = now.copy();
                s.far[a] = now.far[b];
                s.far[b] = now.far[a];
                int then = cleanBy(s);
                if (then != -2 && (by == -2 || then < by)) {
                    by = then;
                    pair = 10 * a + b;
                }
            }
        }
        return what == 0 ? pair : by;
    }

    int missed(int n, int what) {
        if (!in(n, 0, 600) || !in(what, 0, 1)) return -1;
        int[] best = {-2, -2};
        for (int r = 0; r < now.rats.size(); r++) {
            if (now.rats.get(r).where.equals("home")) continue;
            State s = now.copy();
            send(s, r, true);
            int worth = worth(later(s, n));
            if (best[0] == -2 || worth < best[1]) best = new int[] {r, worth};
        }
        return best[what];
    }

    int catAt(int n, int what) {
        if (!in(n, 1, 120) || !in(what, 0, 1)) return -1;
        int[] best = null;
        for (int t = 0; t < n; t++) {
            State s = later(now, t);
            s.cat += 10;
            int worth = worth(later(s, n + 10 - t));
            if (best == null || worth > best[1]) best = new int[] {t, worth};
        }
        return best[what];
    }

    int starves(int r) {
        if (!rat(r)) return -1;
        State s = now.copy();
        for (int n = 0; n <= 600; n++) {
            if (s.rats.get(r).hunger == 99) return n;
            minute(s);
        }
        return -2;
    }

    int mean(int seeds, int n) {
        if (!in(seeds, 1, 20) || !in(n, 0, 600)) return -1;
        int all = 0;
        for (int i = 0; i < seeds; i++) {
            State s = now.copy();
            s.seed = world.seed + i;
            all += inHoles(later(s, n), false);
        }
        return all;
    }

    int sales(int what) {
        if (!in(what, 0, 1)) return -1;
        int[] best = {0, 0};
        for (int set = 0; set < 1 << world.merchants.size(); set++) {
            Set<Integer> chosen = new HashSet<>();
            int pays = 0;
            boolean fresh = true;
            for (int m = 0; m < world.merchants.size(); m++) {
                if ((set >> m & 1) == 1) {
                    chosen.add(m);
                    pays += world.merchants.get(m).pays;
                    fresh &= !now.sold.contains(m);
                }
            }
            if (fresh && pays > best[0] && enough(now, chosen)) best = new int[] {pays, set};
        }
        return best[what];
    }

    int tell(int h, int g, int n, int many) {
        if (told.size() >= 20 || !hole(h) || !grain(g) || !in(n, 0, 99) || !in(many, 0, 9999)) return -1;
        Told t = new Told();
        t.hole = h;
        t.grain = g;
        t.n = n;
        t.many = many;
        told.add(t);
        return told.size() - 1;
    }

    int forget() {
        int many = told.size();
        told.clear();
        return many;
    }

    boolean joke(int k, int a, int b, int m) {
        State s = start();
        for (int n = 0; n <= 99; n++) {
            if (a >= 0 && n == m) {
                int[] c = s.holes[a];
                s.holes[a] = s.holes[b];
                s.holes[b] = c;
            }
            for (Told t : told.subList(0, k)) {
                if (t.n == n && s.holes[t.hole][t.grain] != t.many) return false;
            }
            minute(s);
        }
        return true;
    }

    int jokes(int k, int i) {
        if (!in(k, 0, told.size()) || i < -1) return -1;
        List<Integer> all = new ArrayList<>();
        if (joke(k, -1, -1, 0)) all.add(-3);
        for (int a = 0; a < now.far.length; a++) {
            for (int b = a + 1; b < now.far.length; b++) {
                for (int m = 0; m <= 60; m++) {
                    if (joke(k, a, b, m)) all.add(1000 * a + 100 * b + m);
                }
            }
        }
        return i == -1 ? all.size() : i < all.size() ? all.get(i) : -1;
    }

    boolean hold(int slot) {
        if (!in(slot, 0, 2)) return false;
        slots[slot] = now.copy();
        return true;
    }

    boolean restore(int slot) {
        if (!in(slot, 0, 2) || slots[slot] == null) return false;
        now = slots[slot].copy();
        past.clear();
        return true;
    }

    int count(int what) {
        int sold = 0;
        for (int m : now.sold) sold |= 1 << m;
        int home = 0;
        int all = Arrays.stream(now.heap).sum() + inHoles(now, true) + inHoles(now, false);
        for (int r = 0; r < now.rats.size(); r++) {
            if (now.rats.get(r).where.equals("home")) home |= 1 << r;
            all += now.rats.get(r).carries;
        }
        int held = 0;
        for (State s : slots) held += s == null ? 0 : 1;
        int[] counts = {world.grains.size(), world.holes.size(), world.rats.size(), world.merchants.size(), now.minute,
            now.eaten, now.coins, sold, home, now.cat, now.quarrels, tape.length(), past.size(), told.size(), held, all};
        return in(what, 0, 15) ? counts[what] : -1;
    }
}
