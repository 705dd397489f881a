/** All calls in random order with sound and wild arguments. */
public final class RandomCallsTest extends RandomRun {
    private final int hands;
    private final int places;

    private RandomCallsTest(Dice dice) {
        super(dice);
        hands = 1 + dice.below(6);
        places = 1 + dice.below(dice.oneIn(3) ? 12 : 4);
    }

    @Override
    void begin() {
        for (int i = 0; i < 8; i++) {
            if (!dice.oneIn(5)) {
                tellName();
            }
        }
        for (int i = 0; i < places; i++) {
            both.place(i, 3 + dice.below(9), dice.below(100), dice.below(4), dice.below(3));
        }
    }

    @Override
    void step() {
        if (dice.oneIn(3)) {
            ask();
        } else {
            tell();
        }
    }

    private void tellName() {
        tellName(dice.about(8), dice.word() + (dice.oneIn(20) ? "." : ""), dice.oneIn(3) ? dice.about(6) : dice.below(3));
    }

    private void tellCut() {
        int place = dice.oneIn(25) ? dice.about(12) : dice.below(places);
        int doing = dice.oneIn(10) ? dice.about(5) : soundDoing(place);
        boolean nameless = dice.oneIn(3) || (!dice.oneIn(10) && (doing == 1 || doing == 2));
        both.cut(place, dice.oneIn(60) ? dice.about(6) : dice.below(hands), doing, nameless ? -1 : dice.about(8));
    }

    private void tellTraces() {
        StringBuilder s = new StringBuilder();
        for (char c : dice.word().toCharArray()) {
            s.append(dice.oneIn(3) ? c : '.');
        }
        both.text(dice.blanks() + s + (dice.oneIn(25) ? "3" : "") + dice.blanks());
        both.traces(dice.below(places), dice.oneIn(3) ? dice.about(6) : 0);
    }

    private void tellOrder() {
        StringBuilder s = new StringBuilder();
        int lines = dice.oneIn(8) ? dice.below(15) : dice.below(6);
        for (int i = 0; i < lines; i++) {
            int name = dice.oneIn(25) ? 8 : dice.below(8);
            s.append(dice.line(name, dice.oneIn(3) ? "1" : dice.expr(lines > 6 ? 3 : 0)));
        }
        both.text(dice.oneIn(5) ? dice.spoilt(s.toString()) : s.toString());
        both.order(dice.about(6));
    }

    private int edge() {
        return dice.oneIn(10) ? dice.about(1000) : dice.below(3);
    }

    private void tell() {
        switch (dice.below(16)) {
            case 0, 1 -> tellName();
            case 2 -> both.place(dice.about(places), dice.oneIn(4) ? dice.about(26) : 3 + dice.below(9),
                    dice.oneIn(3) ? dice.about(101) : dice.below(100), dice.about(4), dice.about(3));
            case 3, 4, 5, 6, 7 -> tellCut();
            case 8 -> both.clean(dice.about(places));
            case 9 -> tellTraces();
            case 10 -> both.dated(dice.about(hands), dice.oneIn(3) ? dice.about(6) : -1);
            case 11, 12 -> tellOrder();
            case 13 -> both.works(dice.about(6), dice.about(100), dice.oneIn(2));
            case 14 -> both.feed(dice.random.nextLong(), dice.random.nextLong(), dice.random.nextLong());
            default -> both.block(dice.oneIn(2), dice.about(6), edge(), edge(), dice.oneIn(20) ? dice.about(10) : 1);
        }
    }

    private void ask() {
        switch (dice.below(23)) {
            case 0 -> both.known(dice.about(8), dice.about(4));
            case 1 -> both.alike(dice.about(8), dice.about(8));
            case 2 -> both.layer(dice.about(places), dice.about(6), dice.about(3));
            case 3 -> both.fits(dice.about(places), dice.about(6));
            case 4 -> both.crowded(dice.about(places), dice.about(8));
            case 5 -> both.stories(dice.about(3));
            case 6 -> both.story(dice.about(3), dice.about(6));
            case 7 -> both.odds(dice.about(6), dice.about(6));
            case 8 -> both.between(dice.about(6), dice.about(6));
            case 9 -> both.stood(dice.about(places), dice.about(6));
            case 10 -> both.next(dice.about(2));
            case 11 -> both.doubt();
            case 12 -> both.ran(dice.about(places), dice.about(6));
            case 13 -> both.made(dice.about(places), dice.about(6), dice.about(3));
            case 14 -> both.agrees(dice.about(3));
            case 15 -> both.missed(dice.about(6));
            case 16 -> both.far(dice.about(6), dice.about(8), dice.about(4));
            case 17 -> both.ways(dice.about(2));
            case 18 -> both.back(dice.about(6));
            default -> both.count(dice.about(7));
        }
    }

    public static void main(String[] args) {
        main(args, 200, RandomCallsTest::new);
    }
}
