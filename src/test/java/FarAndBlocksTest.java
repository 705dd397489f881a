/** Promises 27 to 31: far, block, ways, back, count. */
public final class FarAndBlocksTest {
    private static NamesUnder named() {
        NamesUnder x = new NamesUnder();
        String[] words = {"hati", "hato"};
        for (int i = 0; i < 2; i++) {
            Signs.feed(x, words[i]);
            x.name(i, 0, false);
        }
        return x;
    }

    private static void wall(NamesUnder x, int place, int height, int sort, int... handsAndDoingsAndNames) {
        x.place(place, 7, height, sort, 0);
        for (int i = 0; i + 2 < handsAndDoingsAndNames.length; i += 3) {
            x.cut(place, handsAndDoingsAndNames[i], handsAndDoingsAndNames[i + 1], handsAndDoingsAndNames[i + 2]);
        }
    }

    private static void far() {
        NamesUnder x = named();
        Check.same("27: nowhere", x.far(1, 0, 0), -1);
        Check.same("27: nowhere", x.far(1, 0, 1), -1);
        Check.same("27: nowhere", x.far(1, 0, 2), 0);
        Check.same("27: nowhere", x.far(1, 0, 3), 0);
        wall(x, 0, 10, 0, 0, 0, 0, 1, 1, -1);
        wall(x, 1, 40, 1, 0, 0, 0, 1, 2, -1, 1, 3, 0);
        wall(x, 2, 70, 2, 0, 0, 0, 2, 1, -1);
        wall(x, 3, 90, 3, 0, 0, -1, 1, 1, -1);
        wall(x, 4, 30, 2, 0, 0, 0);
        wall(x, 5, 0, 3, 0, 0, -1);
        wall(x, 6, 99, 3, 0, 0, 1, 1, 1, -1, 1, 3, 0, 3, 2, -1, 1, 4, -1);
        Check.same("27: greatest done", x.far(1, 0, 0), 40);
        Check.same("27: least left", x.far(1, 0, 1), 30);
        Check.same("27: sorts done", x.far(1, 0, 2), 3);
        Check.same("27: sorts left", x.far(1, 0, 3), 6);
        Check.same("27: hand 2", x.far(2, 0, 0) * 100 + x.far(2, 0, 2), 7004);
        Check.same("27: hand 3, over a put in", x.far(3, 0, 0) * 100 + x.far(3, 0, 2), 9908);
        Check.same("27: name 1", x.far(1, 1, 0) * 100 + x.far(1, 1, 2), 9908);
        Check.same("27: name 1 stands nowhere", x.far(1, 1, 1), -1);
        Check.same("27: left, whatever the hand", x.far(5, 0, 1), 30);
        int[][] wrong = {{-1, 0, 1}, {6, 0, 1}, {1, 2, 1}, {1, -1, 1}, {1, 8, 1}, {1, 0, 4}, {1, 0, -1}, {6, 0, 2}, {1, 2, 3}};
        for (int[] w : wrong) {
            Check.same("27: far " + w[0] + " " + w[1] + " " + w[2], x.far(w[0], w[1], w[2]), -1);
        }
        x.clean(0);
        Check.same("27: stands again", x.far(1, 0, 1), 10);
        Check.same("27: sorts left", x.far(1, 0, 3), 7);
        Check.same("27: sorts done", x.far(1, 0, 2), 2);
        Check.same("27: at height 0", zeroHeight(), 0);
    }

    private static int zeroHeight() {
        NamesUnder x = named();
        wall(x, 0, 0, 0, 0, 0, 0, 1, 1, -1);
        return x.far(1, 0, 0);
    }

    private static void block() {
        NamesUnder x = new NamesUnder();
        for (boolean gap : new boolean[] {false, true}) {
            Check.so("28: least", x.block(gap, 0, 1, 1, 0));
            Check.so("28: most", x.block(gap, 5, 999, 999, 9));
            int[][] wrong = {{-1, 1, 1, 0}, {6, 1, 1, 0}, {1, -1, 1, 0}, {1, 1000, 1, 0}, {1, 1, -1, 0}, {1, 1, 1000, 0},
                {1, 1, 1, -1}, {1, 1, 1, 10}, {Integer.MIN_VALUE, 1, 1, 1}};
            for (int[] w : wrong) {
                Check.not("28: block " + gap + " " + w[0] + " " + w[1] + " " + w[2] + " " + w[3],
                        x.block(gap, w[0], w[1], w[2], w[3]));
            }
        }
        Check.same("28: blocks", x.count(4), 2);
        Check.same("28: gaps", x.count(5), 2);
        Check.not("28: a gap's edge", x.block(true, 1, 0, 1, 1));
        Check.not("28: a gap's edge", x.block(true, 1, 1, 0, 1));
        Check.so("28: worn", x.block(false, 1, 0, 1, 1));
        Check.so("28: worn", x.block(false, 1, 1, 0, 1));
        Check.so("28: worn", x.block(false, 1, 0, 0, 1));
        Check.same("28: blocks", x.count(4), 3);
        Check.same("28: gaps", x.count(5), 2);
    }

    /** Whether a BLOCK fits a GAP of EDGES 5 and 6 and course 1. */
    private static void fit(int left, int right, int course, boolean so) {
        NamesUnder x = new NamesUnder();
        x.block(true, 3, 5, 6, 1);
        x.block(false, 1, left, right, course);
        Check.same("29: of block 1 " + left + " " + right + " " + course, x.ways(0), so ? 1 : 0);
        x = new NamesUnder();
        x.block(true, 3, 5, 6, 1);
        x.block(false, 2, left, right, course);
        Check.same("29: " + left + " " + right + " " + course, x.ways(0), so ? 1 : 0);
        Check.same("29: sure " + left + " " + right + " " + course, x.ways(1), so ? 4 : 0);
        Check.same("30: " + left + " " + right + " " + course, x.back(2), so ? 8 : 0);
    }

    private static void fits() {
        fit(5, 6, 1, true);
        fit(5, 6, 2, false);
        fit(5, 0, 1, true);
        fit(0, 6, 1, true);
        fit(0, 0, 1, false);
        fit(6, 5, 1, false);
        fit(5, 7, 1, false);
        fit(4, 6, 1, false);
        fit(0, 5, 1, false);
        fit(6, 0, 1, false);
        fit(5, 0, 0, false);
    }

    private static void ways() {
        NamesUnder x = new NamesUnder();
        Check.same("29: without a block", x.ways(0), 1);
        Check.same("29: none sure", x.ways(1), 0);
        x.block(true, 0, 5, 6, 1);
        Check.same("29: a gap alone", x.ways(0), 1);
        Check.same("29: another what", x.ways(2), -1);
        Check.same("29: another what", x.ways(-1), -1);
        Check.same("30: not told", x.back(0), -1);
        x.block(false, 0, 5, 6, 1);
        x.block(false, 1, 5, 6, 1);
        Check.same("29: one gap for two", x.ways(0), 0);
        Check.same("30: no way", x.back(0), 0);
        x.block(true, 4, 5, 7, 1);
        x.block(false, 1, 5, 0, 1);
        Check.same("29: one way", x.ways(0), 1);
        Check.same("29: both sure", x.ways(1), 3);
        Check.same("30: not in the other one's", x.back(1), 16);
        x.block(true, 5, 5, 9, 1);
        Check.same("29: two", x.ways(0), 2);
        Check.same("29: one sure", x.ways(1), 1);
        Check.same("30: in some way", x.back(1), 48);
        Check.same("30: no such", x.back(6), -1);
        Check.same("30: no such", x.back(-1), -1);
        for (int i = 0; i < 6; i++) {
            x.block(false, i, 5, 6, 1);
            x.block(true, i, 5, 6, 1);
        }
        Check.same("29: most", x.ways(0), 720);
        Check.same("29: none sure", x.ways(1), 0);
        Check.same("30: all", x.back(5), 63);
        x.block(false, 3, 5, 6, 2);
        Check.same("29: told anew", x.ways(0), 0);
    }

    private static void count() {
        NamesUnder x = named();
        x.place(0, 7, 0, 0, 0);
        x.place(11, 7, 0, 0, 0);
        x.place(5, 7, 0, 0, 0);
        x.cut(5, 0, 0, 0);
        x.cut(5, 0, 1, -1);
        x.cut(0, 0, 0, 0);
        x.cut(11, 0, 0, 0);
        Signs.feed(x, "out 0 when 1;put 1 when 1;put 1 when 1;put 1 when 1;put 1 when 1;");
        x.order(5);
        for (int i = 0; i < 6; i++) {
            x.block(false, i, 1, 1, 1);
        }
        Signs.feed(x, "seven of");
        int[] due = {2, 3, 4, 5, 6, 0, 8};
        for (int i = 0; i < 7; i++) {
            Check.same("31: count " + i, x.count(i), due[i]);
        }
        Check.same("31: another what", x.count(7), -1);
        Check.same("31: another what", x.count(-1), -1);
        Check.same("31: another what", x.count(Integer.MIN_VALUE), -1);
    }

    public static void main(String[] args) {
        far();
        block();
        fits();
        ways();
        count();
        Check.end();
    }
}
