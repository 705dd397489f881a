/** ORDERS that mostly can be done, and all that is asked of a RUN. */
public final class RandomOrdersTest extends RandomRun {
    private static final String[] NEAR = {"hati", "hato", "tuti", "hat", "mmmmm"};

    private final int places;
    private final int told;

    private RandomOrdersTest(Dice dice) {
        super(dice);
        places = 1 + dice.below(dice.oneIn(4) ? 12 : 4);
        told = 2 + dice.below(4);
    }

    @Override
    void begin() {
        for (int i = 0; i < told; i++) {
            tellName(i, NEAR[i], dice.below(6));
        }
        for (int i = 0; i < places; i++) {
            tellPlace(i);
        }
        for (int i = 0; i < 6; i++) {
            tellOrder(i);
            both.works(i, dice.oneIn(2) ? 99 : dice.below(100), dice.oneIn(2));
        }
    }

    private void tellPlace(int place) {
        both.place(place, 3 + dice.below(7), dice.oneIn(3) ? dice.below(100) : dice.below(20), dice.below(4), 0);
        both.cut(place, 0, 0, dice.oneIn(10) ? -1 : dice.below(told));
    }

    private void tellOrder(int reign) {
        StringBuilder s = new StringBuilder();
        int lines = dice.oneIn(4) ? 13 : dice.below(7);
        for (int i = 0; i < lines; i++) {
            int name = dice.oneIn(30) ? dice.below(10) : dice.below(told);
            s.append(dice.line(name, dice.oneIn(2) ? "1" : dice.expr(dice.below(5))));
        }
        both.text(dice.oneIn(10) ? dice.spoilt(s.toString()) : s.toString());
        both.order(reign);
    }

    /** Tells a PLACE what the RUN makes of it, mostly: then it agrees. */
    private void tellAsRun() {
        int place = dice.below(places);
        for (int i = size(place); i < 6 && both.p.made(place, i, 1) != -1; i++) {
            int doing = dice.oneIn(12) ? soundDoing(place) : both.p.made(place, i, 1);
            both.cut(place, dice.below(6), doing, dice.oneIn(4) ? -1 : both.p.made(place, i, 2));
        }
        both.agrees(0);
    }

    @Override
    void step() {
        switch (dice.below(20)) {
            case 0 -> tellOrder(dice.below(6));
            case 1 -> both.works(dice.below(6), dice.oneIn(2) ? 99 : dice.below(100), dice.oneIn(2));
            case 2 -> tellPlace(dice.below(places));
            case 3 -> tellAsRun();
            case 4 -> tellName(dice.below(told), NEAR[dice.below(5)], dice.below(6));
            case 5 -> both.clean(dice.below(places));
            case 6, 7, 8 -> both.ran(dice.below(places), dice.below(6));
            case 9, 10, 11, 12, 13 -> both.made(dice.below(places), dice.below(6), dice.below(3));
            case 14, 15 -> both.agrees(dice.below(3));
            case 16, 17 -> both.missed(dice.below(6));
            case 18 -> both.count(dice.below(7));
            default -> both.far(dice.below(6), dice.below(told), dice.below(4));
        }
    }

    public static void main(String[] args) {
        main(args, 300, RandomOrdersTest::new);
    }
}
