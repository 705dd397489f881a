/** Promises 21 to 26: order, works, ran, made, agrees, missed. */
public final class OrdersTest {
    /** NAMES hati (0, WIDTH 6), hato (1, WIDTH 7), tuti (2, WIDTH 5), mmmm (3, WIDTH 12). */
    private static NamesUnder named() {
        NamesUnder x = new NamesUnder();
        String[] words = {"hati", "hato", "tuti", "mmmm"};
        for (int i = 0; i < 4; i++) {
            Signs.feed(x, words[i]);
            x.name(i, 0, false);
        }
        return x;
    }

    private static int order(NamesUnder x, int reign, String text) {
        Signs.feed(x, text);
        return x.order(reign);
    }

    /** One PLACE, 4, of SPACE 7, HEIGHT 30, SORT 2 with a FIRST CUT. */
    private static NamesUnder walled(int name) {
        NamesUnder x = named();
        x.place(4, 7, 30, 2, 0);
        x.cut(4, 5, 0, name);
        return x;
    }

    private static void fault(String text, int kind, int place) {
        NamesUnder x = named();
        Check.same("21: a sound one", order(x, 2, "out 0 when 1;"), 0);
        Check.same("21: fault of " + text, order(x, 2, text), kind + 16 * place);
        Check.same("21: tape is empty", x.count(6), 0);
        Check.same("21: the order stays", x.count(3), 1);
    }

    private static void sound(String text, int lines) {
        NamesUnder x = named();
        Check.same("21: " + text, order(x, 5, text), 0);
        Check.same("21: lines of " + text, x.count(3), lines);
        Check.same("21: tape is empty", x.count(6), 0);
    }

    private static void soundOnes() {
        sound("", 0);
        sound(" \n ", 0);
        sound("out 0 when 1;", 1);
        sound("out0when1;hack1when0;put2when 1;mend3when 1;", 4);
        sound("out\n0\nwhen\n1\n;\n", 1);
        sound("out 0003 when 0000;", 1);
        sound("out 0 when 9999;", 1);
        sound("out 0 when height+space-sort*width<place+cuts-stands;", 1);
        sound("out 0 when 1and 1or 0and 1;", 1);
        sound("out 0 when 1<2 and 3=3 or not 1=1;", 1);
        sound("out 0 when not not not not 1;", 1);
        sound("out 0 when((((1))));", 1);
        sound("out 0 when not(not(1)) and (1);", 1);
        sound("out 0 when ((((1)+not 2)));", 1);
        sound("out 0 when 1;".repeat(12), 12);
    }

    private static void oneOne() {
        fault("burn 0 when 1;", 1, 0);
        fault("  out", 1, 5);
        fault("out 0", 1, 5);
        fault("out when", 1, 4);
        fault("out out", 1, 4);
        fault("out 0 0 when 1;", 1, 6);
        fault("out 0 whe 1;", 1, 6);
        fault("out 0 when", 1, 10);
        fault("out 0 when  ", 1, 12);
        fault("out 0 when;", 1, 10);
        fault("out 0 when 1", 1, 12);
        fault("out 0 when 1 1;", 1, 13);
        fault("out 0 when 1 height;", 1, 13);
        fault("out 0 when 1 not 1;", 1, 13);
        fault("out 0 when 1 (1);", 1, 13);
        fault("out 0 when 1);", 1, 12);
        fault("out 0 when (1;", 1, 13);
        fault("out 0 when ();", 1, 12);
        fault("out 0 when 1+;", 1, 13);
        fault("out 0 when +1;", 1, 11);
        fault("out 0 when -1;", 1, 11);
        fault("out 0 when 1<2=3;", 1, 14);
        fault("out 0 when 1<2<3;", 1, 14);
        fault("out 0 when not;", 1, 14);
        fault("out 0 when 1 and;", 1, 16);
        fault("out 0 when 1 and or 1;", 1, 17);
        fault("out 0 when when;", 1, 11);
        fault("out 0 when out;", 1, 11);
        fault("out 0 when 1;;", 1, 13);
        fault("; out 0 when 1;", 1, 0);
        fault("7", 1, 0);
        fault("when 0 when 1;", 1, 0);
    }

    private static void noTokens() {
        fault("out 0 when 12345;", 1, 11);
        fault("out 00000 when 1;", 1, 4);
        fault("out 12345 when 1;", 1, 4);
        fault("out 0 when heightheight;", 1, 11);
        fault("outoutout 0 when 1;", 1, 0);
        fault("out 0 when widths;", 1, 11);
        fault("out 0 when Height;", 1, 11);
        fault("out 0 when 1 > 0;", 1, 13);
        fault("out 0 when 1 & 1;", 1, 13);
        fault("out 0 when 1.5;", 1, 12);
        fault("out 0 when 1 ~", 1, 13);
        fault("out-1 when 1;", 1, 3);
        fault("{", 1, 0);
        fault("`", 1, 0);
        fault("/", 1, 0);
        fault(":", 1, 0);
    }

    private static void otherKinds() {
        fault("out 4 when 1;", 2, 4);
        fault("out 7 when", 2, 4);
        fault("out 8 when 1;", 4, 4);
        fault("out 9999 when 1;", 4, 4);
        fault("out 0 when 1; put 4", 2, 18);
        String twelve = "out 0 when 1;".repeat(12);
        fault(twelve + "out", 5, 156);
        fault(twelve + " mend 9 burn", 5, 157);
        fault(twelve + "burn", 1, 156);
        fault(twelve + "0", 1, 156);
        fault("out 0 when not not not not not 1;", 5, 31);
        fault("out 0 when not not not not not not", 5, 31);
        fault("out 0 when not not not not not height", 5, 31);
        fault("out 0 when not not not not not (", 5, 31);
        fault("out 0 when not not not not not )", 1, 31);
        fault("out 0 when not not not not not", 1, 30);
        fault("out 0 when (((((1)))));", 5, 16);
        fault("out 0 when (((((;", 1, 16);
        fault("out 0 when ((((1+not 2))));", 5, 21);
        fault("out 0 when (((1+(not 2))));", 5, 21);
    }

    private static void wrongReign() {
        NamesUnder x = named();
        for (int reign : new int[] {-1, 6, Integer.MIN_VALUE, Integer.MAX_VALUE}) {
            Check.same("21: no such reign", order(x, reign, "out 0 when 1;"), -1);
            Check.same("21: tape is empty", x.count(6), 0);
        }
        Check.same("21: nothing by that", x.count(3), 0);
        for (int reign = 0; reign < 6; reign++) {
            Check.same("21: each reign", order(x, reign, "out 0 when 1; put 1 when 1;"), 0);
        }
        Check.same("21: lines of all", x.count(3), 12);
        Check.same("21: an empty one", x.order(3), 0);
        Check.same("21: in place of what it was", x.count(3), 10);
    }

    /** Whether E is so at PLACE 4 where hati stands. */
    private static void when(String e, boolean so) {
        NamesUnder x = walled(0);
        Check.same("21: " + e, order(x, 0, "hack 0 when " + e + ";"), 0);
        Check.same("23: E is so: " + e, x.ran(4, 0), so ? 2 : 1);
    }

    private static void sense() {
        when("0", false);
        when("1", true);
        when("9999", true);
        when("0-1", true);
        when("1-1", false);
        when("height=30", true);
        when("space=7", true);
        when("sort=2", true);
        when("width=6", true);
        when("place=4", true);
        when("cuts=1", true);
        when("stands=0", true);
        when("2+3*4=14", true);
        when("(2+3)*4=20", true);
        when("10-3-2=5", true);
        when("2*3*4=24", true);
        when("1<2", true);
        when("2<2", false);
        when("3<2", false);
        when("0-1<0", true);
        when("not 0", true);
        when("not 5", false);
        when("not 5+1=1", true);
        when("not not 7=1", true);
        when("not(1=2)", true);
        when("(5 and 7)=1", true);
        when("(0 or 7)=1", true);
        when("1 or 1 and 0", false);
        when("0 and 0 or 1", true);
        when("1 or (1 and 0)", true);
        when("(1<2)+(3=3)=2", true);
        when("9999*9999*9999*9999<0", false);
        when("9999*9999*9999<0", 9999 * 9999 * 9999 < 0);
        when("9999*9999*22<0", 9999 * 9999 * 22 < 0);
        when("1+(2*(3+(4*(height))))=247", true);
        when("1 and 2<3+4*(1 and 2<3+4*(1 and 2<3+4*(1 and 2<3+4*(1 and 2<3+4*5))))", true);
    }

    private static void fullTape() {
        when("1" + "+1".repeat(490) + "=491", true);
        when("0" + "+0".repeat(490) + "<491", true);
        NamesUnder x = walled(0);
        Check.same("21: 1,000 signs", order(x, 0, "out0when1" + "+1".repeat(495) + ";"), 0);
        Check.same("23: done", x.ran(4, 0), 2);
        Check.same("21: a short one in place of it", order(x, 0, "out0when 0;"), 0);
        Check.same("23: not done", x.ran(4, 0), 1);
        Check.same("21: the stop is beyond", order(x, 0, "out 0 when1" + "+1".repeat(495) + ";"), 1 + 16 * 1000);
        Check.same("21: 1,000 blanks", order(x, 0, " ".repeat(1000)), 0);
        Check.same("21: no lines", x.count(3), 0);
        Check.same("21: 1,000 letters", order(x, 0, "o".repeat(1000)), 1);
        Check.same("21: 1,000 digits", order(x, 0, "out 0 when " + "9".repeat(989)), 1 + 16 * 11);
    }

    private static void sensePastOut() {
        NamesUnder x = walled(0);
        order(x, 0, "out 0 when 1;put 2 when stands=99 and width=0 and cuts=2;hack 2 when width=5 and stands=2 and cuts=3;");
        Check.same("23: facts behind each cut", x.ran(4, 0), 4);
    }

    private static void works() {
        NamesUnder x = walled(0);
        order(x, 1, "out 0 when 1;");
        Check.so("22: below", x.works(1, 29, true));
        Check.same("22: too short", x.ran(4, 5), 1);
        Check.so("22: not below", x.works(1, 30, true));
        Check.same("22: long enough", x.ran(4, 5), 2);
        Check.so("22: least", x.works(1, 0, true));
        Check.so("22: most", x.works(5, 99, false));
        Check.so("22: first", x.works(0, 99, false));
        int[][] wrong = {{-1, 0}, {6, 0}, {1, -1}, {1, 100}, {1, Integer.MIN_VALUE}};
        x.works(1, 99, true);
        for (int[] w : wrong) {
            Check.not("22: works " + w[0] + " " + w[1], x.works(w[0], w[1], false));
        }
        Check.same("22: wrong ones change nothing", x.ran(4, 5), 2);
        x.place(4, 7, 99, 2, 0);
        x.cut(4, 0, 0, 0);
        Check.same("22: 99 for the most height", x.ran(4, 5), 2);
        order(x, 1, "");
        order(x, 2, "out 0 when 1;");
        Check.same("22: 99 at first", x.ran(4, 5), 2);
    }

    private static void slips() {
        NamesUnder x = walled(1);
        order(x, 2, "out 0 when 1;");
        Check.same("22: all can read at first", x.ran(4, 5), 1);
        Check.same("25: no slip", x.agrees(1), 0);
        x.works(2, 99, false);
        Check.same("22: they can't read", x.ran(4, 5), 2);
        Check.same("25: a slip", x.agrees(1), 1);
        Check.same("26: hato is not hati", x.missed(2), 0);
        order(x, 2, "out 2 when 1;");
        Check.same("22: not alike", x.ran(4, 5), 1);
        order(x, 2, "out 1 when 1;");
        Check.same("25: its own name is no slip", x.ran(4, 5) * 10 + x.agrees(1), 20);
        x.works(2, 99, true);
        order(x, 2, "hack 0 when 1;hack 1 when 1;put 1 when 1;");
        Check.same("23: three", x.ran(4, 5), 3);
        x.works(2, 99, false);
        Check.same("23: the first line slips", x.made(4, 1, 1) * 10 + x.agrees(1), 21);
    }

    private static void ranAndMade() {
        NamesUnder x = walled(0);
        order(x, 0, "out 0 when 1;");
        order(x, 3, "mend 2 when 1;mend 0 when 1;");
        order(x, 4, "hack 0 when 1;put 2 when 1;");
        int[] sizes = {2, 2, 2, 3, 5, 5};
        for (int r = 0; r < 6; r++) {
            Check.same("23: behind reign " + r, x.ran(4, r), sizes[r]);
        }
        int[][] due = {{-1, 0, 0}, {0, 1, -1}, {3, 4, 0}, {4, 2, -1}, {4, 3, 2}};
        for (int layer = 0; layer < 5; layer++) {
            for (int what = 0; what < 3; what++) {
                Check.same("24: made " + layer + " " + what, x.made(4, layer, what), due[layer][what]);
            }
        }
        Check.same("24: none such", x.made(4, 5, 0), -1);
        Check.same("24: none such", x.made(4, -1, 0), -1);
        Check.same("24: none such", x.made(4, 0, 3), -1);
        Check.same("24: none such", x.made(4, 0, -1), -1);
        Check.same("24: no such place", x.made(3, 0, 0), -1);
        Check.same("24: no such place", x.made(12, 0, 0), -1);
        Check.same("23: no such place", x.ran(3, 0), -1);
        Check.same("23: no such place", x.ran(-1, 0), -1);
        Check.same("23: no such reign", x.ran(4, 6), -1);
        Check.same("23: no such reign", x.ran(4, -1), -1);
        Check.same("25: cuts together", x.agrees(2), 5);
    }

    private static void whatCanBeDone() {
        NamesUnder x = walled(0);
        order(x, 0, "put 2 when 1;mend 0 when 1;");
        Check.same("23: nothing to put in", x.ran(4, 0), 1);
        order(x, 0, "out 0 when 1;put 3 when 1;");
        Check.same("23: too wide", x.ran(4, 0), 2);
        x.place(4, 10, 30, 2, 0);
        x.cut(4, 0, 0, 0);
        Check.same("23: crowded", x.ran(4, 0), 3);
        order(x, 0, "out 0 when 1;out 0 when 1;hack 0 when 1;");
        Check.same("23: out once", x.ran(4, 0), 2);
        order(x, 0, "out 0 when 1;put 2 when 1;".repeat(3));
        Check.same("23: each line once", x.ran(4, 0), 3);
        order(x, 0, "out 0 when 1;put 0 when 1;".repeat(6));
        Check.same("23: six at most", x.ran(4, 0), 6);
        Check.same("23: six behind others", x.ran(4, 5), 6);
        order(x, 0, "out 0 when 1;put 2 when 1;out 2 when 1;mend 0 when 1;mend 2 when 1;");
        Check.same("23: mend what stood right below", x.ran(4, 0), 5);
        Check.same("24: mended", x.made(4, 4, 1) * 10 + x.made(4, 4, 2), 42);
        x.place(4, 3, 30, 2, 0);
        x.cut(4, 0, 0, 0);
        order(x, 0, "out 0 when 1;mend 0 when 1;");
        Check.same("23: mend likewise not what is too wide", x.ran(4, 0), 2);
    }

    private static void noFirstKnown() {
        NamesUnder x = walled(-1);
        order(x, 0, "out 0 when 1;put 1 when 1;");
        Check.same("23: first not known", x.ran(4, 5), 0);
        Check.same("24: none", x.made(4, 0, 0), -1);
        Check.same("25: does not agree", x.agrees(0), 0);
        Check.same("25: no cuts", x.agrees(2), 0);
        x.clean(4);
        Check.same("25: without cuts it agrees", x.agrees(0), 16);
        x.place(0, 5, 0, 0, 0);
        Check.same("25: each that is told", x.agrees(0), 17);
    }

    private static void agrees() {
        NamesUnder x = walled(0);
        x.place(0, 7, 0, 0, 0);
        x.cut(0, 0, 0, 0);
        Check.same("25: both", x.agrees(0), 17);
        order(x, 3, "out 0 when place=4;put 1 when 1;");
        Check.same("25: one", x.agrees(0), 1);
        x.cut(4, 0, 1, -1);
        Check.same("25: not as many", x.agrees(0), 1);
        x.cut(4, 0, 3, 2);
        Check.same("25: another name", x.agrees(0), 1);
        x.clean(4);
        x.cut(4, 0, 3, -1);
        Check.same("25: not known", x.agrees(0), 17);
        x.clean(4);
        x.cut(4, 0, 3, 1);
        Check.same("25: the same name, another hand", x.agrees(0), 17);
        order(x, 3, "hack 0 when place=4;put 1 when 1;");
        Check.same("25: another doing", x.agrees(0), 1);
        Check.same("25: cuts", x.agrees(2), 4);
        Check.same("25: another what", x.agrees(3), -1);
        Check.same("25: another what", x.agrees(-1), -1);
    }

    private static void missed() {
        NamesUnder x = walled(0);
        x.place(0, 7, 80, 0, 0);
        x.cut(0, 0, 0, 0);
        x.place(9, 7, 0, 0, 0);
        x.cut(9, 0, 0, 2);
        x.place(10, 7, 0, 0, 0);
        x.cut(10, 0, 0, -1);
        order(x, 1, "out 0 when 1;");
        x.works(1, 50, true);
        Check.same("26: too high", x.missed(1), 1);
        Check.same("26: another reign has no lines", x.missed(0), 0);
        order(x, 2, "hack 0 when 1;put 2 when 1;hack 2 when 0;");
        Check.same("26: behind its own reign", x.missed(2), 1 + 16 + 512);
        Check.same("26: as it stood behind that one", x.missed(1), 1);
        order(x, 2, "put 0 when 1;mend 2 when 1;");
        Check.same("26: lines of put and mend are nothing", x.missed(2), 0);
        order(x, 0, "out 2 when 0;");
        Check.same("26: never done", x.missed(0), 512);
        Check.same("26: no such", x.missed(6), -1);
        Check.same("26: no such", x.missed(-1), -1);
    }

    private static void changesAreSeen() {
        NamesUnder x = walled(0);
        order(x, 0, "out 0 when width=6;put 1 when 1;");
        Check.same("23: three", x.ran(4, 5), 3);
        Signs.feed(x, "mmmmm");
        x.name(1, 0, false);
        Check.same("23: the name is wider now", x.ran(4, 5), 2);
        Signs.feed(x, "m");
        x.name(0, 0, false);
        Check.same("23: and the first one narrow", x.ran(4, 5), 1);
        x.place(4, 7, 30, 2, 0);
        Check.same("23: cuts gone", x.ran(4, 5), 0);
        x.cut(4, 0, 0, 0);
        Check.same("23: a cut again", x.ran(4, 5), 1);
        x.clean(4);
        Check.same("23: gone again", x.ran(4, 5), 0);
    }

    public static void main(String[] args) {
        soundOnes();
        oneOne();
        noTokens();
        otherKinds();
        wrongReign();
        sense();
        fullTape();
        sensePastOut();
        works();
        slips();
        ranAndMade();
        whatCanBeDone();
        noFirstKnown();
        agrees();
        missed();
        changesAreSeen();
        Check.end();
    }
}
