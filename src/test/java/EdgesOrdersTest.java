import java.util.List;

/** Sentences about the letters of ORDERS that tell a boundary: promise 21. */
public final class EdgesOrdersTest {
    private static final int NONE = NamesUnder.NONE;
    private static final String HEAD = "out 0 when ";
    private static final String[] DEEDS = {"out", "hack", "put", "mend"};
    private static final String[] FACTS = {"height", "space", "sort", "width", "place", "cuts", "stands"};

    /** NAMES 0, 3 and 7 are told. */
    private static NamesUnder named() {
        NamesUnder x = new NamesUnder();
        Tell.name(x, 0, "hati");
        Tell.name(x, 3, "hato");
        Tell.name(x, 7, "tuti");
        return x;
    }

    private static int read(String text) {
        return Tell.order(named(), 4, text);
    }

    private static void fault(String text, int kind, int place) {
        Check.same("'" + text + "'", read(text), kind + 16 * place);
    }

    private static void sound(String text, int lines) {
        NamesUnder x = named();
        Check.same("'" + text + "'", Tell.order(x, 4, text), 0);
        Check.same("lines of '" + text + "'", x.count(3), lines);
    }

    private static void blanksBetween() {
        Check.says("blanks (10, 32) between where one likes");
        String[] tokens = {"out", "0", "when", "(", "height", "<", "1", ")", "+", "not", "2", ";"};
        for (String blank : new String[] {" ", "\n", "  ", "\n\n", " \n "}) {
            sound(String.join(blank, tokens), 1);
            sound(blank + String.join(blank, tokens) + blank, 1);
            sound((String.join(blank, tokens) + blank).repeat(3), 3);
        }
        sound("out0when(height<1)+not 2;hack3when 1;put7when cuts;mend0when(1);", 4);
        sound("out 0 when 1and 2or 3;", 1);
        fault("o ut 0 when 1;", 1, 0);
        fault("out 0 wh en 1;", 1, 6);
        fault(HEAD + "hei ght;", 1, 11);
        fault(HEAD + "1 2;", 1, 13);
        fault(HEAD + "1\n2;", 1, 13);
        fault("out 0 0 when 1;", 1, 6);
    }

    private static void longWords() {
        Check.says("TOKENS, each as long as can be");
        fault("outout 0 when 1;", 1, 0);
        fault("out 0 whenheight<1;", 1, 6);
        fault(HEAD + "notnot 1;", 1, 11);
        fault(HEAD + "notheight;", 1, 11);
        fault(HEAD + "1 andheight;", 1, 13);
        fault(HEAD + "heightand 1;", 1, 11);
        fault(HEAD + "1or1;", 0, 0);
        fault(HEAD + "1and not 1;", 0, 0);
        fault(HEAD + "10 000;", 1, 14);
        sound(HEAD + "1000;", 1);
    }

    private static void wordsOfEight() {
        Check.says("WORDS (letters a .. z, 8 at most)");
        for (int size = 1; size <= 20; size++) {
            fault("q".repeat(size) + " 0 when 1;", 1, 0);
            fault(HEAD + "1 + " + "q".repeat(size) + ";", 1, 15);
            fault("out " + "q".repeat(size), 1, 4);
        }
        fault("outttttt 0 when 1;", 1, 0);
        fault("outtttttt 0 when 1;", 1, 0);
        fault(HEAD + "heighttt;", 1, 11);
        fault(HEAD + "heightttt;", 1, 11);
        fault(HEAD + "heightheight;", 1, 11);
        fault("q".repeat(1000), 1, 0);
        for (String word : new String[] {"ou", "hac", "pu", "men", "outs", "hacks", "puts", "mends", "Out", "oUt"}) {
            fault(word + " 0 when 1;", 1, 0);
        }
        for (String fact : FACTS) {
            sound(HEAD + fact + ";", 1);
            fault(HEAD + fact + "s;", 1, 11);
            fault(HEAD + fact.substring(0, fact.length() - 1) + ";", 1, 11);
            fault(HEAD + "x" + fact + ";", 1, 11);
        }
    }

    private static void numbersOfFour() {
        Check.says("NUMBERS (1 to 4 digits; a letter may stand right behind)");
        for (int size = 1; size <= 12; size++) {
            for (String digit : new String[] {"0", "1", "9"}) {
                String number = digit.repeat(size);
                fault(HEAD + number + ";", size <= 4 ? 0 : 1, size <= 4 ? 0 : 11);
                fault(HEAD + "1+" + number + "and 1;", size <= 4 ? 0 : 1, size <= 4 ? 0 : 13);
            }
            fault("out " + "0".repeat(size) + " when 1;", size <= 4 ? 0 : 1, size <= 4 ? 0 : 4);
            fault("out " + "0".repeat(size) + "when 1;", size <= 4 ? 0 : 1, size <= 4 ? 0 : 4);
        }
        fault("out 0 when 1x;", 1, 12);
        fault("out 0 when 1height;", 1, 12);
        sound("out 0when 1;", 1);
        sound(HEAD + "9999and 9999or 9999;", 1);
        fault(HEAD + "9".repeat(989), 1, 11);
    }

    private static void otherSigns() {
        Check.says("the signs ( ) < = + - * ; All else (a longer WORD or NUMBER, too, at its first sign) is none.");
        for (char c = 33; c <= 126; c++) {
            boolean digit = c >= '0' && c <= '9';
            if (digit || "<=+-*".indexOf(c) >= 0) {
                sound(HEAD + "1" + c + "1;", 1);
            } else {
                fault(HEAD + "1" + c + "1;", 1, c == ';' ? 13 : 12);
            }
            if (digit) {
                sound(HEAD + c + "1;", 1);
            } else {
                fault(HEAD + c + "1;", 1, c == '(' ? 13 : 11);
            }
            fault("" + c, 1, 0);
            if (!digit) {
                fault("out 0" + c, 1, 5);
            }
        }
    }

    private static String lines(int number) {
        return "out 0 when 1;".repeat(number);
    }

    private static void twelveLines() {
        Check.says("ORDER of a REIGN: any number of LINES DO N when E ; DO: out, hack, put, mend. N: a NAME's number (told). 12 LINES at most.");
        for (int number = 0; number <= 12; number++) {
            sound(lines(number), number);
            sound("\n" + lines(number) + " ", number);
        }
        for (String deed : DEEDS) {
            sound(deed + " 0 when 1;", 1);
            sound(lines(11) + deed + " 0 when 1;", 12);
        }
    }

    private static void thirteenthLine() {
        Check.says("5 one too many: DO of a 13th LINE");
        for (String deed : DEEDS) {
            fault(lines(12) + deed, 5, 156);
            fault(lines(12) + deed + " 0 when 1;", 5, 156);
            fault(lines(12) + " \n" + deed + " 9 q", 5, 158);
            fault(lines(11) + deed, 1, 143 + deed.length());
        }
        fault(lines(13), 5, 156);
        fault(lines(40), 5, 156);
        for (String other : new String[] {"when", "q", "0", ";", "(", "?", "not", "height", "outout"}) {
            fault(lines(12) + other, 1, 156);
        }
        fault(lines(12) + "out 0 when 1", 5, 156);
    }

    private static void eachReign() {
        Check.says("Without a FAULT it is the ORDER from then on (at first each REIGN's is empty).");
        NamesUnder x = named();
        Check.same("empty at first", x.count(3), 0);
        for (int reign = 0; reign < 6; reign++) {
            Check.same("twelve of " + reign, Tell.order(x, reign, lines(12)), 0);
            Check.same("lines", x.count(3), 12 * (reign + 1));
        }
        Check.same("a fault", Tell.order(x, 3, lines(13)), 5 + 16 * 156);
        Check.same("stays", x.count(3), 72);
        Check.same("in place of it", Tell.order(x, 3, lines(11)), 0);
        Check.same("lines", x.count(3), 71);
        Check.same("an empty one", Tell.order(x, 3, " "), 0);
        Check.same("lines", x.count(3), 60);
    }

    private static void numberOfName() {
        Check.says("2 N of a NAME that is not told (0 to 7); 4 a NUMBER that is not as told (N above 7)");
        for (int n = 0; n <= 20; n++) {
            boolean told = n == 0 || n == 3 || n == 7;
            int kind = n > 7 ? 4 : told ? 0 : 2;
            for (String zeros : new String[] {"", "0", "00"}) {
                fault("hack " + zeros + n + " when 1;", kind, kind == 0 ? 0 : 5);
            }
        }
        for (int n : new int[] {99, 100, 999, 1000, 9999}) {
            fault("mend " + n + " when 1;", 4, 5);
        }
        fault("out 00000 when 1;", 1, 4);
        fault("out 00008 when 1;", 1, 4);
        fault("out 10000 when 1;", 1, 4);
        fault(lines(3) + "put 1", 2, 43);
        fault(lines(3) + "put 8", 4, 43);
        fault(lines(3) + "put 7", 1, 44);
        NamesUnder x = new NamesUnder();
        Check.same("no name is told", Tell.order(x, 0, lines(1)), 2 + 16 * 4);
        Tell.name(x, 0, "hati");
        Check.same("told", Tell.order(x, 0, lines(1)), 0);
    }

    /** All rows of so many of not and (, by bits. */
    private static String enclosed(int depth, int bits, String within) {
        StringBuilder s = new StringBuilder();
        StringBuilder closed = new StringBuilder();
        for (int i = 0; i < depth; i++) {
            boolean not = (bits >> i & 1) == 1;
            s.append(not ? "not " : "(");
            closed.append(not ? "" : ")");
        }
        return s + within + closed;
    }

    private static int placeOfSixth(int bits) {
        int place = HEAD.length();
        for (int i = 0; i < 5; i++) {
            place += (bits >> i & 1) == 1 ? 4 : 1;
        }
        return place;
    }

    private static void withinFive() {
        Check.says("no PART lies within 5 of not and ( )");
        for (int depth = 0; depth <= 8; depth++) {
            for (int bits = 0; bits < 1 << depth; bits++) {
                for (String within : new String[] {"1", "9999", "height", "stands"}) {
                    String text = HEAD + enclosed(depth, bits, within) + ";";
                    if (depth < 5) {
                        sound(text, 1);
                    } else {
                        fault(text, 5, placeOfSixth(bits));
                    }
                }
            }
        }
    }

    private static void backFromWithin() {
        Check.says("not, or a PART, within 5 others");
        for (String sign : new String[] {"+", "-", "*", "<", "=", " and ", " or "}) {
            for (int bits = 0; bits < 16; bits++) {
                String four = enclosed(4, bits, "1");
                sound(HEAD + four + sign + four + ";", 1);
                sound(HEAD + four + sign + enclosed(4, 15 - bits, "cuts") + ";", 1);
                String five = HEAD + four + sign;
                fault(five + enclosed(5, bits, "1") + ";", 5, five.length() + placeOfSixth(bits) - HEAD.length());
            }
        }
        sound(HEAD + "not(not(1)+not(1))*not(not 1);", 1);
        sound(HEAD + "not not not not 1 and not not not not 1;hack 0 when not not not not 1;", 2);
        sound(HEAD + "(((1+not 1)+not 1)+not 1)+not not not not 1;", 1);
        fault(HEAD + "(1+(1+(1+(1+not 1))));", 5, 27);
        fault(HEAD + "(1+(1+(1+(1+(1)))));", 5, 24);
        sound(HEAD + "(1+(1+(1+(1+1))));", 1);
        sound(HEAD + "not not not (1+2*3<4 and 5 or 6=7);", 1);
        fault(HEAD + "not not not (1+not 2);", 5, 30);
    }

    private static void noPartWithinFive() {
        Check.says("of the first token from the left that is wrong the least: 1 it is none, or can't stand there");
        for (int bits = 0; bits < 32; bits++) {
            String head = HEAD + enclosed(5, bits, "").replace(")", "");
            for (String part : new String[] {"1", "0000", "height", "not", "not 1", "(", "(1"}) {
                fault(head + part, 5, head.length());
            }
            for (String none : new String[] {"", ")", ";", "and", "+", "<", "when", "out", "12345", "q", "?", "heightheight"}) {
                fault(head + none, 1, head.length());
            }
        }
        fault("out 8 whe", 4, 4);
        fault("out 1 whe", 2, 4);
        fault("ou 8", 1, 0);
        fault(HEAD + "1 q ?", 1, 13);
        fault(lines(1) + "out 1 when ?; out 8", 2, 17);
        fault(lines(12) + "out 1", 5, 156);
    }

    /** Behind a text a TOKEN: what may not stand there is a FAULT 1 at its place, what may is none. */
    private static void mayFollow(String text, List<String> may) {
        String[] all = {"out", "hack", "put", "mend", "when", "and", "or", "not", "height", "space", "sort", "width", "place",
            "cuts", "stands", "1", "9999", "(", ")", "<", "=", "+", "-", "*", ";", "q", "12345", "?", ""};
        for (String token : all) {
            String whole = text + " " + token;
            if (!may.contains(token)) {
                fault(whole, 1, text.length() + 1);
            } else if (token.equals(";")) {
                Check.same("'" + whole + "'", read(whole), 0);
            } else {
                fault(whole, 1, whole.length());
            }
        }
    }

    private static void partsAndJoints() {
        Check.says("E: TEST { and TEST or or TEST }, from the left; TEST: SUM, or SUM < SUM, or SUM = SUM; SUM: PRODUCT { + or - "
                + "PRODUCT }; PRODUCT: PART { * PART }; PART: a NUMBER, a fact, not PART, ( E )");
        List<String> parts = List.of("height", "space", "sort", "width", "place", "cuts", "stands", "1", "9999", "not", "(");
        for (String text : new String[] {"", "not", "(", "1 and", "1 or", "1 <", "1 =", "1 +", "1 -", "1 *", "1 < 2 and", "1<2+", "(1)*",
            "not (", "( not", "1 and ("}) {
            mayFollow(HEAD + text, parts);
        }
        List<String> joints = List.of("and", "or", "<", "=", "+", "-", "*", ";");
        for (String text : new String[] {"1", "height", "not 1", "(1)", "(1<2)", "1+2", "1*2", "1-2*3", "1 and 2", "1<2 or 3", "1=2 and 3*4",
            "(1=2)+3", "not (1<2)"}) {
            mayFollow(HEAD + text, joints);
        }
        List<String> tested = List.of("and", "or", "+", "-", "*", ";");
        for (String text : new String[] {"1<2", "1=2", "1<2+3", "1=2*3", "1+2<3", "1 and 2<3", "1<2 or 3=4", "1<(2)", "1<(2=3)", "1=not 2"}) {
            mayFollow(HEAD + text, tested);
        }
        for (String text : new String[] {"(1", "1<(2", "not (1", "(1+2", "((1<2)", "(1<2 and 3"}) {
            mayFollow(HEAD + text, List.of("and", "or", "<", "=", "+", "-", "*", ")"));
        }
        mayFollow(HEAD + "(1<2", List.of("and", "or", "+", "-", "*", ")"));
    }

    private static void linesBegin() {
        Check.says("ORDER of a REIGN: any number of LINES DO N when E ; DO: out, hack, put, mend.");
        List<String> deeds = List.of("out", "hack", "put", "mend");
        for (String text : new String[] {"out 0 when 1;", "put 3 when (1); mend 7 when not 0;"}) {
            for (String token : new String[] {"out", "hack", "put", "mend", "when", "and", "not", "height", "1", "(", ")", "<", ";", "q"}) {
                String whole = text + " " + token;
                fault(whole, 1, deeds.contains(token) ? whole.length() : text.length() + 1);
            }
        }
        for (String token : new String[] {"out", "when", "and", "not", "height", "(", ")", "<", "-", ";", "q", "?", ""}) {
            fault("out " + token, 1, 4);
            fault("out 0 " + token, 1, token.equals("when") ? 10 : 6);
        }
        fault("out 0 1", 1, 6);
        fault("out -1 when 1;", 1, 4);
    }

    private static void theEnd() {
        Check.says("FAULTS, kind + 16 * the place (from 0) of a token, the end being one at the text's length");
        String whole = "out 0 when (1<2);";
        int[] ends = {3, 5, 10, 12, 13, 14, 15, 16};
        for (int end : ends) {
            fault(whole.substring(0, end), 1, end);
            fault(whole.substring(0, end) + " ", 1, end + 1);
            fault(whole.substring(0, end) + " \n\n", 1, end + 3);
            fault(" \n" + whole.substring(0, end), 1, end + 2);
            fault(lines(2) + whole.substring(0, end), 1, 26 + end);
        }
        Check.same("none at all", read(""), 0);
        Check.same("blanks", read(" \n"), 0);
        fault(" ?", 1, 1);
        fault(" ".repeat(999) + "?", 1, 999);
        fault(" ".repeat(997) + "out", 1, 1000);
        fault(" ".repeat(996) + "out", 1, 999);
        fault(" ".repeat(995) + "out 8", 4, 999);
        fault(" ".repeat(995) + "out 4", 2, 999);
        fault(" ".repeat(841) + lines(12) + "out", 5, 997);
    }

    private static void fullTape() {
        Check.says("The TAPE has at most 1,000 signs");
        String long999 = "out0when1" + "+1".repeat(494) + "  ";
        Check.same("999 and the stop", read(long999 + ";"), 0);
        Check.same("1,000 and the stop", read(long999 + " ;"), 1 + 16 * 1000);
        Check.same("998 and the stop", read(long999.substring(1) + ";"), 1);
        NamesUnder x = named();
        Check.same("of 1,000 signs", Tell.order(x, 0, "out0when1" + "+1".repeat(495) + ";"), 0);
        Check.same("one line", x.count(3), 1);
        String eleven = "out0when1;".repeat(11);
        Check.same("twelve lines of 1,000 signs", Tell.order(x, 1, eleven + "out0when1" + "*1".repeat(440) + ";"), 0);
        Check.same("thirteen lines", x.count(3), 13);
        Check.same("what is beyond is not read", Tell.order(x, 2, "out0when1;" + " ".repeat(990) + "q"), 0);
        Check.same("right ahead of that it is", Tell.order(x, 3, "out0when1;" + " ".repeat(989) + "q"), 1 + 16 * 999);
    }

    private static void longOnes() {
        Check.says("Without a FAULT it is the ORDER from then on");
        NamesUnder x = named();
        Tell.wall(x, 0, 6, Tell.by(0, Tell.FIRST, 0));
        String ones = "1" + "+1".repeat(489);
        for (int i = 0; i < 4; i++) {
            Check.same("a long one", Tell.order(x, 0, HEAD + ones + "-490;"), 0);
            Check.same("490 less 490", x.ran(0, 0), 1);
            Check.same("another long one", Tell.order(x, 0, HEAD + ones + "-489;"), 0);
            Check.same("490 less 489", x.ran(0, 0), 2);
        }
    }

    private static void behindFaults() {
        Check.says("FAULTS, kind + 16 * the place (from 0) of a token");
        String[] texts = {HEAD + "(((1", HEAD + "not not not", HEAD + "1+2*3<(4", HEAD + "(((((1", HEAD + "1<2<", "out", "out 8", "?",
            HEAD + "1 and 2<3+4*", lines(13), HEAD + "12345", HEAD + "not(not(1 or"};
        for (String text : texts) {
            NamesUnder x = named();
            Tell.wall(x, 0, 6, Tell.by(0, Tell.FIRST, 0));
            Check.so("a fault of " + text, Tell.order(x, 0, text) > 0);
            Check.same("sound behind " + text, Tell.order(x, 0, HEAD + enclosed(4, 5, "1") + ";"), 0);
            Check.same("done", x.ran(0, 0), 2);
            Check.same("one line", x.count(3), 1);
            Check.so("a fault of " + text, Tell.order(x, 0, text) > 0);
            Check.same("sound behind " + text, Tell.order(x, 0, HEAD + "0;"), 0);
            Check.same("not done", x.ran(0, 0), 1);
            Check.so("a fault of " + text, Tell.order(x, 0, text) > 0);
            Check.same("five behind " + text, Tell.order(x, 0, HEAD + enclosed(5, 0, "1") + ";"), 5 + 16 * 16);
        }
    }

    private static void reigns() {
        Check.says("The TAPE is read as the ORDER of a REIGN: 0; its FAULT (it stays then); -1: no such REIGN (the TAPE is empty).");
        Check.range("reign", 0, 5, v -> Tell.order(named(), v, lines(2)) == 0);
        Check.outside("reign", 0, 5, v -> Tell.order(named(), v, lines(2)) != NONE);
        Check.outside("reign with a fault", 0, 5, v -> Tell.order(named(), v, "?") != NONE);
        NamesUnder x = named();
        Tell.order(x, 5, lines(2));
        String[] texts = {lines(1), "?", lines(13), "out 8", "out 4", "", HEAD + "1", HEAD + enclosed(5, 0, "1")};
        for (String text : texts) {
            for (int reign : new int[] {-1, 6}) {
                Check.same("no such reign", Tell.order(x, reign, text), NONE);
                Check.same("the tape is empty", x.count(6), 0);
                Check.same("the orders stay", x.count(3), 2);
            }
            if (!text.isEmpty() && !text.equals(lines(1))) {
                Check.so("a fault of " + text, Tell.order(x, 5, text) > 0);
                Check.same("the tape is empty", x.count(6), 0);
                Check.same("the order stays", x.count(3), 2);
            }
        }
    }

    private static void staysAsItWas() {
        Check.says("its FAULT (it stays then)");
        NamesUnder x = named();
        Tell.wall(x, 0, 6, Tell.by(0, Tell.FIRST, 0));
        Tell.order(x, 0, "hack 0 when 1; put 7 when 1;");
        Check.same("three cuts", x.ran(0, 0), 3);
        for (String text : new String[] {"out 0 when 0;?", "out 0 when 0; put 8", "out 3 when 1; put 4", lines(13), HEAD + "0"}) {
            Check.so("a fault of " + text, Tell.order(x, 0, text) > 0);
            Check.same("three cuts as before", x.ran(0, 0), 3);
            Check.same("hacked as before", x.made(0, 1, 1), 2);
            Check.same("tuti as before", x.made(0, 2, 2), 7);
        }
        Check.same("a sound one", Tell.order(x, 0, HEAD + "1;"), 0);
        Check.same("two cuts", x.ran(0, 0), 2);
        Check.same("out", x.made(0, 1, 1), 1);
    }

    public static void main(String[] args) {
        blanksBetween();
        longWords();
        wordsOfEight();
        numbersOfFour();
        otherSigns();
        twelveLines();
        thirteenthLine();
        eachReign();
        numberOfName();
        withinFive();
        backFromWithin();
        noPartWithinFive();
        partsAndJoints();
        linesBegin();
        theEnd();
        fullTape();
        longOnes();
        behindFaults();
        reigns();
        staysAsItWas();
        Check.end();
    }
}
