import java.util.ArrayList;
import java.util.List;
import java.util.Random;

/** Makes texts at random: whole ones, and ones with something wrong in them. */
final class TextMaker {
    private final Random random;

    TextMaker(Random random) {
        this.random = random;
    }

    private int in(int least, int most) {
        return least + random.nextInt(most - least + 1);
    }

    private boolean chance(int percent) {
        return random.nextInt(100) < percent;
    }

    String text() {
        List<String> parts = whole();
        if (chance(30)) {
            spoil(parts);
        }
        String text = join(parts);
        if (chance(5) && !text.isEmpty()) {
            int at = random.nextInt(text.length());
            text = text.substring(0, at) + (char) random.nextInt(256) + text.substring(at + chanceBit());
        }
        return text.length() > 2000 ? text.substring(0, 2000) : text;
    }

    private int chanceBit() {
        return chance(50) ? 1 : 0;
    }

    private String join(List<String> parts) {
        StringBuilder b = new StringBuilder(chance(10) ? "\n" : "");
        boolean tight = chance(40);
        for (int i = 0; i < parts.size(); i++) {
            String part = parts.get(i);
            b.append(part);
            boolean next = i + 1 < parts.size();
            char last = part.isEmpty() ? ' ' : part.charAt(part.length() - 1);
            char first = next && !parts.get(i + 1).isEmpty() ? parts.get(i + 1).charAt(0) : ' ';
            boolean glued = Character.isLetter(last) && Character.isLetter(first)
                    || Character.isDigit(last) && Character.isDigit(first);
            if (next && (glued || !tight)) {
                b.append(" \t\n\r  ".charAt(chance(90) ? 0 : random.nextInt(6)));
            }
        }
        return b.append(chance(10) ? "  " : "").toString();
    }

    private void spoil(List<String> parts) {
        String[] others = {"grain", "hole", "rat", "load", "eats", "errs", "wants", "lamp", "odd", "seed", "if", "then",
            "else", "hunger", "fat", "much", "dark", "far", "know", "trips", ";", "=", "+", "-", "*", "/", "<", "(", ")",
            "0", "1", "31", "100", "10000", "9999", "a", "abcdefgh", "abcdefghi", "grains", "A", ".", "ga", "ha", "ra", ""};
        for (int i = in(1, 2); i > 0 && !parts.isEmpty(); i--) {
            int at = random.nextInt(parts.size());
            if (chance(50)) {
                spoilMeaning(parts, at);
                continue;
            }
            String other = chance(40) ? parts.get(random.nextInt(parts.size())) : others[random.nextInt(others.length)];
            switch (in(0, 3)) {
                case 0 -> parts.set(at, other);
                case 1 -> parts.add(at, other);
                case 2 -> parts.remove(at);
                default -> {
                    if (chance(30)) parts.subList(at, parts.size()).clear();
                    else parts.set(at, other);
                }
            }
        }
    }

    /** Another name for a name, another number for a number: the shape stays. */
    private void spoilMeaning(List<String> parts, int at) {
        String part = parts.get(at);
        if (!part.isEmpty() && Character.isDigit(part.charAt(0))) {
            parts.set(at, String.valueOf(new int[] {0, 1, 9, 10, 30, 31, 99, 100, 9999}[in(0, 8)]));
        } else if (part.length() == 2 && !part.equals("if")) {
            parts.set(at, "" + "ghr".charAt(in(0, 2)) + (char) ('a' + in(0, 6)));
        }
    }

    private List<String> whole() {
        List<String> parts = new ArrayList<>();
        int most = chance(3) ? 9 : 6;
        int grains = chance(5) ? 0 : in(1, most);
        int holes = grains == 0 || chance(5) ? 0 : in(1, most);
        int rats = holes == 0 || chance(5) ? 0 : in(1, chance(3) ? 9 : 8);
        int pouring = new int[] {5, 30, 200, 9999}[in(0, 3)];
        int far = new int[] {2, 6, 30}[in(0, 2)];
        int g = 0;
        int h = 0;
        int r = 0;
        int told = 0;
        int more = in(0, 9);
        while (g < grains || h < holes || r < rats || told < more) {
            int pick = in(0, 9);
            if (pick < 3 && g < grains) {
                add(parts, "grain", "g" + letter(g++), in(0, pouring), in(0, chance(10) ? 99 : 9), ";");
            } else if (pick < 5 && h < holes && g > 0) {
                add(parts, "hole", "h" + letter(h++), in(1, far), "g" + letter(random.nextInt(g)), ";");
            } else if (pick < 8 && r < rats && h > 0) {
                add(parts, "rat", "r" + letter(r++), "g" + letter(random.nextInt(g)), "h" + letter(random.nextInt(h)),
                        in(0, 9), in(0, chance(50) ? 3 : 99), ";");
            } else if (pick >= 8 && told < more) {
                told++;
                extra(parts, g);
            }
        }
        if (chance(3)) {
            longLaw(parts);
        }
        return parts;
    }

    private static String letter(int i) {
        return String.valueOf((char) ('a' + i));
    }

    private static void add(List<String> parts, Object... all) {
        for (Object one : all) {
            parts.add(String.valueOf(one));
        }
    }

    private void extra(List<String> parts, int grains) {
        switch (in(0, 9)) {
            case 0 -> add(parts, "lamp", chance(50) ? in(0, 200) : in(0, 9999), ";");
            case 1 -> add(parts, "odd", in(1, chance(50) ? 12 : 99), ";");
            case 2 -> add(parts, "seed", in(0, 9999), ";");
            case 3, 4, 5 -> wants(parts, grains);
            case 6 -> law(parts, "load");
            case 7 -> law(parts, "eats");
            default -> law(parts, "errs");
        }
    }

    private void wants(List<String> parts, int grains) {
        add(parts, "wants", in(0, chance(50) ? 4 : 9999));
        int wants = grains == 0 ? 0 : in(0, Math.min(chance(3) ? 6 : 4, grains));
        List<Integer> left = new ArrayList<>();
        for (int g = 0; g < grains; g++) left.add(g);
        for (int i = 0; i < wants; i++) {
            int g = chance(3) ? random.nextInt(grains) : left.remove(random.nextInt(left.size()));
            left.remove((Integer) g);
            if (left.isEmpty()) left.add(g);
            add(parts, "g" + letter(g), in(1, chance(80) ? 12 : 300));
        }
        parts.add(";");
    }

    private void law(List<String> parts, String word) {
        add(parts, word, "=");
        if (chance(35)) {
            add(parts, word.equals("errs") ? in(0, 100) : in(0, 12), ";");
            return;
        }
        for (int ifs = chance(50) ? 0 : in(1, chance(4) ? 5 : 4); ifs > 0; ifs--) {
            parts.add("if");
            sum(parts, 2);
            parts.add("<");
            sum(parts, 2);
            parts.add("then");
            sum(parts, 2);
            parts.add("else");
        }
        sum(parts, chance(5) ? 8 : 2);
        parts.add(";");
    }

    private void sum(List<String> parts, int deep) {
        for (int i = chance(60) ? 0 : in(1, 3); i >= 0; i--) {
            unit(parts, deep);
            if (i > 0) parts.add("+-*/".substring(random.nextInt(4)).substring(0, 1));
        }
    }

    private void unit(List<String> parts, int deep) {
        String[] vars = {"hunger", "fat", "much", "dark", "far", "know", "trips"};
        if (deep > 0 && (chance(15) || deep > 2)) {
            parts.add("(");
            sum(parts, deep - 1);
            parts.add(")");
        } else if (chance(50)) {
            parts.add(vars[random.nextInt(7)]);
        } else {
            parts.add(String.valueOf(chance(80) ? in(0, 12) : in(0, 9999)));
        }
    }

    /** So long that the text has about 400 tokens. */
    private void longLaw(List<String> parts) {
        int tokens = 400 + in(-6, 6) - parts.size();
        add(parts, new String[] {"load", "eats", "errs"}[in(0, 2)], "=", "1");
        for (int i = 4; i + 2 < tokens; i += 2) {
            add(parts, "+-*/".substring(random.nextInt(4)).substring(0, 1), in(1, 3));
        }
        parts.add(";");
    }
}
