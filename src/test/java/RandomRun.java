/** One random run of calls on the class and on Plain. */
abstract class RandomRun {
    private static final int CALLS = 512;

    final Dice dice;
    final Both both = new Both();

    RandomRun(Dice dice) {
        this.dice = dice;
    }

    /** What is told before the random calls. */
    abstract void begin();

    /** One random call, or a few that belong together. */
    abstract void step();

    final String differed() {
        begin();
        while (both.history.size() < CALLS - 50 && both.wrong == null) {
            step();
        }
        return both.wrong;
    }

    final void tellName(int name, String word, int reign) {
        both.text(dice.blanks() + word + dice.blanks());
        both.name(name, reign, dice.oneIn(2));
    }

    /** How many CUTS lie at a PLACE; 0 where none is told. */
    final int size(int place) {
        return place < 0 || place > 11 || both.p.places[place] == null ? 0 : both.p.places[place].cuts().size();
    }

    /** A DOING that may lie on what lies at a PLACE. */
    final int soundDoing(int place) {
        int size = size(place);
        return size == 0 ? 0 : size % 2 == 1 ? 1 + dice.below(2) : 3 + dice.below(2);
    }

    interface Maker {
        RandomRun make(Dice dice);
    }

    /** Makes runs from seeds on; prints those that differ and ends with 1 if there was one. */
    static void main(String[] args, int runs, Maker maker) {
        int number = args.length > 0 ? Integer.parseInt(args[0]) : runs;
        int wrong = 0;
        for (int seed = 1; seed <= number && wrong < 5; seed++) {
            RandomRun run = maker.make(new Dice(seed));
            String differed = run.differed();
            if (differed != null) {
                wrong++;
                System.out.println("run " + seed + ": " + differed);
                if (args.length > 1) {
                    run.both.history.forEach(System.out::println);
                }
            }
        }
        System.out.println(wrong == 0 ? number + " random runs answered as Plain does" : wrong + " random runs differ");
        if (wrong != 0) {
            System.exit(1);
        }
    }
}
