import java.util.Random;

/** Random runs of calls on the class and on Plain: all answers have to be the same. */
public final class RandomRunsTest {
    private static final int[] WILD = {-1, -2, 5, 6, 7, 8, 11, 12, 24, 99, 100, 1000,
        Integer.MIN_VALUE, Integer.MAX_VALUE, 1 << 16, -(1 << 30)};
    private static final String[] WORDS = {"hati", "hato", "hat", "tuti", "m", "ii", "ahati", "amenmose", "wwwwwwww",
        "hata", "tut", "hatit", "sethi", "seti", "i", "mim", "ramesses", "senwosre"};
    private static final String[] FACTS = {"height", "space", "sort", "width", "place", "cuts", "stands"};
    private static final String[] DEEDS = {"out", "hack", "put", "mend"};

    private final Random random;
    private final Both both = new Both();
    private final int hands;
    private final int places;

    private RandomRunsTest(long seed) {
        random = new Random(seed);
        hands = 1 + random.nextInt(6);
        places = 1 + random.nextInt(random.nextInt(3) == 0 ? 12 : 4);
    }

    private int upTo(int bound) {
        return random.nextInt(40) == 0 ? WILD[random.nextInt(WILD.length)] : random.nextInt(bound);
    }

    private String word() {
        if (random.nextInt(3) > 0) {
            return WORDS[random.nextInt(WORDS.length)];
        }
        StringBuilder s = new StringBuilder();
        for (int i = random.nextInt(10); i >= 0; i--) {
            s.append("ahtimw".charAt(random.nextInt(6)));
        }
        return s.toString();
    }

    private String blanks() {
        return new String[] {"", "", " ", "\n", "  \n "}[random.nextInt(5)];
    }

    private void tellName() {
        both.text(blanks() + word() + blanks());
        if (random.nextInt(20) == 0) {
            both.text(random.nextBoolean() ? "." : word());
        }
        both.name(upTo(8), random.nextInt(3) > 0 ? random.nextInt(3) : upTo(6), random.nextBoolean());
    }

    private void tellCut() {
        int place = random.nextInt(25) == 0 ? upTo(12) : random.nextInt(places);
        int doing = random.nextInt(5);
        int name = random.nextInt(3) == 0 ? -1 : upTo(8);
        // What lies there mostly tells what may lie on it, so that walls grow.
        if (random.nextInt(10) > 0) {
            int size = 0;
            while (size < 6 && both.p.places[place < 0 || place > 11 ? 0 : place] != null
                    && size < both.p.places[place < 0 || place > 11 ? 0 : place].cuts().size()) {
                size++;
            }
            doing = size == 0 ? 0 : size % 2 == 1 ? 1 + random.nextInt(2) : 3 + random.nextInt(2);
        }
        if (random.nextInt(10) > 0 && (doing == 1 || doing == 2)) {
            name = -1;
        }
        both.cut(place, random.nextInt(60) == 0 ? upTo(6) : random.nextInt(hands), doing, name);
    }

    private void tellTraces() {
        String seen = word();
        StringBuilder s = new StringBuilder();
        for (char c : seen.toCharArray()) {
            s.append(random.nextInt(3) > 0 ? '.' : c);
        }
        both.text(blanks() + s + (random.nextInt(25) == 0 ? "3" : "") + blanks());
        both.traces(random.nextInt(places), random.nextInt(3) > 0 ? 0 : upTo(6));
    }

    private String part(int depth) {
        int kind = random.nextInt(depth > 5 ? 5 : 10);
        if (kind < 2) {
            return String.valueOf(random.nextInt(random.nextInt(10) == 0 ? 12000 : 100));
        }
        if (kind < 7) {
            return FACTS[random.nextInt(FACTS.length)];
        }
        return kind == 7 ? "not " + part(depth + 1) : "(" + blanks() + expr(depth + 1) + blanks() + ")";
    }

    private String product(int depth) {
        return random.nextInt(4) == 0 ? part(depth) + blanks() + "*" + blanks() + part(depth) : part(depth);
    }

    private String sum(int depth) {
        String s = product(depth);
        for (int i = random.nextInt(5); i > 2; i--) {
            s += (random.nextBoolean() ? "+" : "-") + blanks() + product(depth);
        }
        return s;
    }

    private String test(int depth) {
        String s = sum(depth);
        int kind = random.nextInt(4);
        return kind == 0 ? s + "<" + sum(depth) : kind == 1 ? s + " = " + sum(depth) : s;
    }

    private String expr(int depth) {
        String s = test(depth);
        for (int i = random.nextInt(5); i > 2; i--) {
            s += (random.nextBoolean() ? " and " : " or ") + test(depth);
        }
        return s;
    }

    private void tellOrder() {
        StringBuilder s = new StringBuilder();
        int lines = random.nextInt(8) == 0 ? random.nextInt(15) : random.nextInt(6);
        for (int i = 0; i < lines; i++) {
            String when = random.nextInt(3) == 0 ? "1" : expr(lines > 6 ? 3 : 0);
            s.append(DEEDS[random.nextInt(4)]).append(blanks()).append(random.nextInt(25) == 0 ? 8 : random.nextInt(8))
                    .append(blanks()).append("when ").append(when).append(blanks()).append(";").append(blanks());
        }
        for (int i = random.nextInt(6); i > 4 && s.length() > 0; i--) {
            int at = random.nextInt(s.length());
            switch (random.nextInt(3)) {
                case 0 -> s.deleteCharAt(at);
                case 1 -> s.insert(at, "();<=+-* /aw19.".charAt(random.nextInt(15)));
                default -> s.setCharAt(at, "();<=+-* /aw19.".charAt(random.nextInt(15)));
            }
        }
        both.text(s.toString());
        both.order(upTo(6));
    }

    private void tellSomething() {
        switch (random.nextInt(16)) {
            case 0, 1 -> tellName();
            case 2 -> both.place(upTo(places), random.nextInt(4) > 0 ? 3 + random.nextInt(9) : upTo(26),
                    random.nextInt(3) > 0 ? random.nextInt(100) : upTo(101), upTo(4), upTo(3));
            case 3, 4, 5, 6, 7 -> tellCut();
            case 8 -> both.clean(upTo(places));
            case 9 -> tellTraces();
            case 10 -> both.dated(upTo(hands), random.nextInt(3) == 0 ? upTo(6) : -1);
            case 11, 12 -> tellOrder();
            case 13 -> both.works(upTo(6), upTo(100), random.nextBoolean());
            case 14 -> both.feed(random.nextLong(), random.nextLong(), random.nextLong());
            default -> both.block(random.nextBoolean(), upTo(6), edge(), edge(), random.nextInt(20) == 0 ? upTo(10) : 1);
        }
    }

    private int edge() {
        return random.nextInt(10) == 0 ? upTo(1000) : random.nextInt(3);
    }

    private void askOfStories() {
        int stories = both.x.stories(0);
        switch (random.nextInt(9)) {
            case 0, 1 -> both.stories(upTo(3));
            case 2 -> both.story(stories > 0 ? upTo(stories + 1) : upTo(3), upTo(6));
            case 3 -> both.odds(upTo(6), upTo(6));
            case 4 -> both.between(upTo(6), upTo(6));
            case 5, 6 -> both.stood(upTo(places), upTo(6));
            case 7 -> both.next(upTo(2));
            default -> both.doubt();
        }
    }

    private void askSomething() {
        switch (random.nextInt(16)) {
            case 0 -> both.known(upTo(8), upTo(4));
            case 1 -> both.alike(upTo(8), upTo(8));
            case 2 -> both.layer(upTo(places), upTo(6), upTo(3));
            case 3 -> both.fits(upTo(places), upTo(6));
            case 4 -> both.crowded(upTo(places), upTo(8));
            case 5, 6, 7 -> askOfStories();
            case 8 -> both.ran(upTo(places), upTo(6));
            case 9 -> both.made(upTo(places), upTo(6), upTo(3));
            case 10 -> both.agrees(upTo(3));
            case 11 -> both.missed(upTo(6));
            case 12 -> both.far(upTo(6), upTo(8), upTo(4));
            case 13 -> both.ways(upTo(2));
            case 14 -> both.back(upTo(6));
            default -> both.count(upTo(7));
        }
    }

    private void begin() {
        for (int i = 0; i < 8; i++) {
            if (random.nextInt(5) > 0) {
                tellName();
            }
        }
        for (int i = 0; i < places; i++) {
            both.place(i, 3 + random.nextInt(9), random.nextInt(100), random.nextInt(4), random.nextInt(3));
        }
    }

    /** What differed, or null. */
    private String run() {
        begin();
        while (both.history.size() < 512 && both.wrong == null) {
            if (random.nextInt(3) > 0) {
                tellSomething();
            } else {
                askSomething();
            }
        }
        return both.wrong;
    }

    public static void main(String[] args) {
        int runs = args.length > 0 ? Integer.parseInt(args[0]) : 400;
        int wrong = 0;
        for (int seed = 1; seed <= runs && wrong < 5; seed++) {
            RandomRunsTest test = new RandomRunsTest(seed);
            String differed = test.run();
            if (differed != null) {
                wrong++;
                System.out.println("run " + seed + ": " + differed);
                if (args.length > 1) {
                    test.both.history.forEach(System.out::println);
                }
            }
        }
        System.out.println(wrong == 0 ? runs + " random runs answered as Plain does" : wrong + " random runs differ");
        if (wrong != 0) {
            System.exit(1);
        }
    }
}
