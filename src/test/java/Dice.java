import java.util.Random;

/** Random arguments and texts: mostly sound ones, sometimes wild. */
final class Dice {
    private static final int[] WILD = {-1, -2, 5, 6, 7, 8, 11, 12, 24, 99, 100, 1000,
        Integer.MIN_VALUE, Integer.MAX_VALUE, 1 << 16, -(1 << 30)};
    private static final String[] WORDS = {"hati", "hato", "hat", "tuti", "m", "ii", "ahati", "amenmose", "wwwwwwww",
        "hata", "tut", "hatit", "sethi", "seti", "i", "mim", "ramesses", "senwosre"};
    private static final String[] FACTS = {"height", "space", "sort", "width", "place", "cuts", "stands"};
    private static final String[] DEEDS = {"out", "hack", "put", "mend"};

    final Random random;

    Dice(long seed) {
        random = new Random(seed);
    }

    int below(int bound) {
        return random.nextInt(bound);
    }

    boolean oneIn(int n) {
        return random.nextInt(n) == 0;
    }

    /** Below a bound, one in forty is anything. */
    int about(int bound) {
        return oneIn(40) ? WILD[below(WILD.length)] : below(bound);
    }

    String word() {
        if (!oneIn(3)) {
            return WORDS[below(WORDS.length)];
        }
        StringBuilder s = new StringBuilder();
        for (int i = below(10); i >= 0; i--) {
            s.append("ahtimw".charAt(below(6)));
        }
        return s.toString();
    }

    String blanks() {
        return new String[] {"", "", " ", "\n", "  \n "}[below(5)];
    }

    private String part(int depth) {
        int kind = below(depth > 5 ? 5 : 10);
        if (kind < 2) {
            return String.valueOf(below(oneIn(10) ? 12000 : 100));
        }
        if (kind < 7) {
            return FACTS[below(FACTS.length)];
        }
        return kind == 7 ? "not " + part(depth + 1) : "(" + blanks() + expr(depth + 1) + blanks() + ")";
    }

    private String product(int depth) {
        StringBuilder s = new StringBuilder(part(depth));
        for (int i = below(6); i > 3; i--) {
            s.append(blanks()).append("*").append(blanks()).append(part(depth));
        }
        return s.toString();
    }

    private String sum(int depth) {
        StringBuilder s = new StringBuilder(product(depth));
        for (int i = below(5); i > 2; i--) {
            s.append(oneIn(2) ? "+" : "-").append(blanks()).append(product(depth));
        }
        return s.toString();
    }

    private String test(int depth) {
        String s = sum(depth);
        int kind = below(4);
        return kind == 0 ? s + "<" + sum(depth) : kind == 1 ? s + " = " + sum(depth) : s;
    }

    String expr(int depth) {
        StringBuilder s = new StringBuilder(test(depth));
        for (int i = below(5); i > 2; i--) {
            s.append(oneIn(2) ? " and " : " or ").append(test(depth));
        }
        return s.toString();
    }

    String line(int name, String when) {
        return DEEDS[below(4)] + blanks() + name + blanks() + "when " + when + blanks() + ";" + blanks();
    }

    String spoilt(String text) {
        StringBuilder s = new StringBuilder(text);
        int at = below(s.length() + 1);
        char sign = "();<=+-* /aw19.".charAt(below(15));
        if (at == s.length() || oneIn(3)) {
            s.insert(at, sign);
        } else if (oneIn(2)) {
            s.deleteCharAt(at);
        } else {
            s.setCharAt(at, sign);
        }
        return s.toString();
    }
}
