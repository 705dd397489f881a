/** Walls that mostly let some STORY, and all that is asked of STORIES and of HOW FAR. */
public final class RandomStoriesTest extends RandomRun {
    private static final String[] NEAR = {"hati", "hato", "tuti", "sati", "hat", "teti", "ahati", "hatim"};

    private final int hands;
    private final int places;
    private final int[] secret = new int[6];

    private RandomStoriesTest(Dice dice) {
        super(dice);
        hands = 2 + dice.below(5);
        places = 1 + dice.below(dice.oneIn(4) ? 12 : 5);
        for (int i = 0; i < 6; i++) {
            secret[i] = dice.below(6);
        }
    }

    @Override
    void begin() {
        for (int i = 0; i < 8; i++) {
            if (!dice.oneIn(4)) {
                tellName(i, NEAR[i], dice.below(dice.oneIn(3) ? 6 : 3));
            }
        }
        for (int i = 0; i < places; i++) {
            tellPlace(i);
        }
    }

    private void tellPlace(int place) {
        both.place(place, 5 + dice.below(5), dice.below(100), dice.below(4), dice.oneIn(3) ? 1 + dice.below(2) : 0);
    }

    @Override
    void step() {
        if (dice.oneIn(2)) {
            ask();
        } else if (both.x.stories(0) == 0 && !dice.oneIn(6)) {
            both.doubt();
            both.clean(dice.below(places));
        } else {
            tell();
        }
    }

    /** Mostly a HAND whose secret REIGN is not ahead of that of the topmost CUT. */
    private int nextHand(int place) {
        int hand = dice.below(hands);
        int size = size(place);
        for (int i = 0; i < 20 && size > 0 && !dice.oneIn(20); i++) {
            int below = both.p.places[place].cuts().get(size - 1).hand;
            if (secret[hand] >= secret[below] && (hand != below || size % 2 == 1)) {
                break;
            }
            hand = dice.below(hands);
        }
        return hand;
    }

    private void tellCut() {
        int place = dice.below(places);
        int doing = soundDoing(place);
        boolean nameless = doing == 1 || doing == 2 || dice.oneIn(2);
        int name = dice.below(8);
        int size = size(place);
        if (doing == 4 && size >= 2 && dice.oneIn(2)) {
            name = both.p.places[place].cuts().get(size - 2).name;
        }
        both.cut(place, nextHand(place), doing, nameless ? -1 : name);
    }

    private void tellTraces() {
        StringBuilder s = new StringBuilder();
        for (char c : NEAR[dice.below(8)].toCharArray()) {
            s.append(dice.oneIn(3) ? c : '.');
        }
        both.text(s.toString());
        both.traces(dice.below(places), 2 * dice.below(3));
    }

    private void tell() {
        switch (dice.below(12)) {
            case 0 -> tellPlace(dice.below(places));
            case 1 -> both.clean(dice.below(places));
            case 2 -> tellTraces();
            case 3 -> both.dated(dice.below(6), dice.oneIn(2) ? -1 : dice.below(6));
            case 4 -> tellName(dice.below(8), NEAR[dice.below(8)], dice.below(4));
            default -> tellCut();
        }
    }

    private void ask() {
        int stories = both.x.stories(0);
        switch (dice.below(12)) {
            case 0, 1 -> both.stories(dice.below(3));
            case 2 -> {
                int k = dice.below(stories + 1);
                both.story(k, dice.below(hands));
                both.story(k, dice.below(6));
            }
            case 3 -> both.odds(dice.below(hands), dice.below(6));
            case 4 -> both.between(dice.below(hands), dice.below(hands));
            case 5, 6, 7 -> both.stood(dice.below(places), 2 * dice.below(3));
            case 8 -> both.next(dice.below(2));
            case 9 -> both.far(dice.below(hands), dice.below(8), dice.below(4));
            case 10 -> both.fits(dice.below(places), 2 * dice.below(3));
            default -> both.doubt();
        }
    }

    public static void main(String[] args) {
        main(args, 120, RandomStoriesTest::new);
    }
}
