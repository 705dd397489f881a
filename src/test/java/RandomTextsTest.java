/** Rows of random TOKENS, most of them nearly an ORDER: the FAULTS have to be found at the same place. */
public final class RandomTextsTest extends RandomRun {
    private static final String[] PARTS = {"1", "0", "height", "stands", "not", "(", "(", "not", "12", "cuts"};
    private static final String[] JOINTS = {"+", "-", "*", "<", "=", "and", "or", ")", ")", ";"};
    private static final String[] OTHERS = {"out", "when", "0", "8", "7", "12345", "heightheight", "?", ";", ")", "(", "and", "not", "<"};

    private RandomTextsTest(Dice dice) {
        super(dice);
    }

    @Override
    void begin() {
        tellName(0, "hati", 0);
        tellName(3, "hato", 0);
        both.place(2, 7, 30, 1, 0);
        both.cut(2, 0, 0, 0);
    }

    private void add(StringBuilder s, String token) {
        String one = dice.oneIn(60) ? OTHERS[dice.below(OTHERS.length)] : token;
        boolean apart = s.length() > 0 && Character.isLetterOrDigit(s.charAt(s.length() - 1)) && Character.isLetterOrDigit(one.charAt(0));
        s.append(apart && !dice.oneIn(50) ? " " : dice.blanks()).append(one);
    }

    private void addLine(StringBuilder s) {
        add(s, new String[] {"out", "hack", "put", "mend"}[dice.below(4)]);
        add(s, dice.oneIn(12) ? "1" : "3");
        add(s, "when");
        boolean part = true;
        int open = 0;
        for (int i = 0; i < 40; i++) {
            String token = part ? PARTS[dice.below(PARTS.length)] : JOINTS[dice.below(JOINTS.length)];
            if (token.equals(")") && open == 0 && !dice.oneIn(12)) {
                token = ";";
            }
            if (token.equals(";") && open > 0 && !dice.oneIn(12)) {
                token = ")";
            }
            add(s, token);
            open += token.equals("(") ? 1 : token.equals(")") ? -1 : 0;
            part = part ? token.equals("not") || token.equals("(") : !token.equals(")");
            if (token.equals(";")) {
                return;
            }
        }
    }

    @Override
    void step() {
        StringBuilder s = new StringBuilder();
        for (int i = dice.below(4); i >= 0; i--) {
            addLine(s);
        }
        both.text(s.toString());
        if (both.order(dice.below(6)) == 0) {
            both.ran(2, 5);
            both.agrees(2);
        }
    }

    public static void main(String[] args) {
        main(args, 200, RandomTextsTest::new);
    }
}
