/** BLOCKS and GAPS of few EDGES, so that there are WAYS. */
public final class RandomBlocksTest extends RandomRun {
    private final int edges;

    private RandomBlocksTest(Dice dice) {
        super(dice);
        edges = 1 + dice.below(3);
    }

    @Override
    void begin() {
        for (int i = 0; i < 6; i++) {
            tell(true, i);
        }
    }

    private int edge() {
        return 1 + dice.below(edges);
    }

    private void tell(boolean gap, int number) {
        boolean worn = !gap && dice.oneIn(2);
        both.block(gap, number, worn && dice.oneIn(2) ? 0 : edge(), worn && dice.oneIn(2) ? 0 : edge(), dice.oneIn(9) ? 2 : 1);
    }

    @Override
    void step() {
        switch (dice.below(8)) {
            case 0 -> tell(true, dice.below(6));
            case 1, 2 -> tell(false, dice.below(6));
            case 3, 4 -> both.ways(dice.below(2));
            default -> both.back(dice.below(6));
        }
    }

    public static void main(String[] args) {
        main(args, 30, RandomBlocksTest::new);
    }
}
