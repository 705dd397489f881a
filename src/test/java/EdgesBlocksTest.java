/** Sentences about HOW FAR, BLOCKS, GAPS and count that tell a boundary: promises 27 to 31. */
public final class EdgesBlocksTest {
    private static final int NONE = NamesUnder.NONE;
    private static final int FIRST = Tell.FIRST;
    private static final int OUT = Tell.OUT;
    private static final int HACKED = Tell.HACKED;
    private static final int PUT_IN = Tell.PUT_IN;
    private static final int MENDED = Tell.MENDED;

    private static NamesUnder named() {
        return Tell.named("hati", "hato");
    }

    private static void wall(NamesUnder x, int place, int height, int sort, int[]... cuts) {
        Check.so("place", x.place(place, 6, height, sort, 0));
        Tell.pile(x, place, cuts);
    }

    /** The four answers about HOW FAR a HAND went against a NAME. */
    private static void far(String what, NamesUnder x, int hand, int name, int... due) {
        for (int i = 0; i < 4; i++) {
            Check.same(what + ", what " + i, x.far(hand, name, i), due[i]);
        }
    }

    private static void greatestDone() {
        Check.says("the greatest HEIGHT of PLACES at which it cut it OUT or HACKED (the CUT below known to be it)");
        for (int gone : new int[] {OUT, HACKED}) {
            for (int height : new int[] {0, 1, 98, 99}) {
                NamesUnder x = named();
                wall(x, 4, height, 3, Tell.by(0, FIRST, 0), Tell.by(1, gone, NONE));
                far("done at " + height, x, 1, 0, height, NONE, 8, 0);
                far("not by the hand below", x, 0, 0, NONE, NONE, 0, 0);
                far("not against the other name", x, 1, 1, NONE, NONE, 0, 0);
            }
            NamesUnder x = named();
            wall(x, 0, 50, 0, Tell.by(0, FIRST, 0), Tell.by(5, gone, NONE));
            wall(x, 11, 51, 1, Tell.by(0, FIRST, 0), Tell.by(5, gone, NONE));
            wall(x, 5, 49, 2, Tell.by(0, FIRST, 0), Tell.by(5, gone, NONE));
            far("the greatest of three", x, 5, 0, 51, NONE, 7, 0);
            wall(x, 6, 99, 3, Tell.by(5, FIRST, NONE), Tell.by(5, gone, NONE));
            far("not known", x, 5, 0, 51, NONE, 7, 0);
            wall(x, 6, 99, 3, Tell.by(5, FIRST, 1), Tell.by(5, gone, NONE), Tell.by(5, PUT_IN, 0));
            far("put in, not out", x, 5, 0, 51, 99, 7, 8);
            wall(x, 6, 99, 3, Tell.by(0, FIRST, 0), Tell.by(4, gone, NONE));
            far("by another hand", x, 5, 0, 51, NONE, 7, 0);
            x.place(11, 6, 0, 0, 0);
            far("the greatest is gone", x, 5, 0, 50, NONE, 5, 0);
        }
    }

    private static void doneHigherUp() {
        Check.says("HOW FAR a HAND went against a NAME, by what was told");
        NamesUnder x = named();
        wall(x, 0, 10, 0, Tell.by(0, FIRST, 0), Tell.by(1, OUT, NONE), Tell.by(2, PUT_IN, 1), Tell.by(3, HACKED, NONE),
                Tell.by(4, MENDED, 1), Tell.by(5, OUT, NONE));
        far("layer 1", x, 1, 0, 10, NONE, 1, 0);
        far("layer 3", x, 3, 1, 10, NONE, 1, 0);
        far("layer 5", x, 5, 1, 10, NONE, 1, 0);
        far("who put it in", x, 2, 1, NONE, NONE, 0, 0);
        far("who mended it", x, 4, 1, NONE, NONE, 0, 0);
        far("the other name", x, 3, 0, NONE, NONE, 0, 0);
        Tell.order(x, 1, "out 1 when 1;");
        Tell.wall(x, 1, 6, Tell.by(0, FIRST, 1));
        far("not by a run", x, 1, 1, NONE, 0, 0, 1);
        NamesUnder y = named();
        wall(y, 0, 10, 0, Tell.by(0, FIRST, 0), Tell.by(1, OUT, NONE), Tell.by(2, MENDED, NONE), Tell.by(3, OUT, NONE));
        far("a mended one told as not known", y, 3, 0, NONE, NONE, 0, 0);
    }

    private static void leastLeft() {
        Check.says("the least HEIGHT of PLACES where it (known) stands still");
        for (int height : new int[] {0, 1, 98, 99}) {
            NamesUnder x = named();
            wall(x, 4, height, 2, Tell.by(0, FIRST, 0));
            far("stands at " + height, x, 3, 0, NONE, height, 0, 4);
            far("the other name", x, 3, 1, NONE, NONE, 0, 0);
        }
        int[][] orders = {{49, 50, 51}, {49, 51, 50}, {50, 49, 51}, {50, 51, 49}, {51, 49, 50}, {51, 50, 49}};
        for (int[] heights : orders) {
            NamesUnder y = named();
            for (int i = 0; i < 3; i++) {
                wall(y, 5 * i, heights[i], i, Tell.by(0, FIRST, 0));
                wall(y, 5 * i + 1, heights[i], i, Tell.by(0, FIRST, 1), Tell.by(2, OUT, NONE));
            }
            far("the least of three", y, 2, 0, NONE, 49, 0, 7);
            far("the greatest of three", y, 2, 1, 51, NONE, 7, 0);
        }
        NamesUnder x = named();
        wall(x, 0, 50, 0, Tell.by(0, FIRST, 0));
        wall(x, 11, 49, 1, Tell.by(0, FIRST, 0));
        wall(x, 5, 51, 2, Tell.by(0, FIRST, 0));
        wall(x, 6, 0, 3, Tell.by(0, FIRST, NONE));
        far("not known", x, 0, 0, NONE, 49, 0, 7);
        wall(x, 6, 0, 3, Tell.by(0, FIRST, 0), Tell.by(1, OUT, NONE));
        far("out", x, 0, 0, NONE, 49, 0, 7);
        wall(x, 6, 0, 3, Tell.by(0, FIRST, 0), Tell.by(1, OUT, NONE), Tell.by(1, PUT_IN, 1));
        far("another one put in", x, 0, 0, NONE, 49, 0, 7);
        wall(x, 6, 0, 3, Tell.by(0, FIRST, 1), Tell.by(1, OUT, NONE), Tell.by(1, PUT_IN, 0));
        far("put in", x, 0, 0, NONE, 0, 0, 15);
        wall(x, 6, 0, 3, Tell.by(0, FIRST, 0), Tell.by(1, OUT, NONE), Tell.by(1, MENDED, 0));
        far("mended", x, 0, 0, NONE, 0, 0, 15);
        wall(x, 6, 0, 3, Tell.by(0, FIRST, 0), Tell.by(1, OUT, NONE), Tell.by(1, MENDED, NONE));
        far("mended, told as not known", x, 0, 0, NONE, 49, 0, 7);
    }

    private static void sorts() {
        Check.says("the SORTS of the one, the SORTS of the other, as bits.");
        for (int sort = 0; sort < 4; sort++) {
            NamesUnder x = named();
            wall(x, 0, 5, sort, Tell.by(0, FIRST, 0), Tell.by(1, OUT, NONE));
            wall(x, 1, 6, 3 - sort, Tell.by(0, FIRST, 0));
            far("sort " + sort, x, 1, 0, 5, 6, 1 << sort, 8 >> sort);
        }
        NamesUnder x = named();
        for (int i = 0; i < 12; i++) {
            wall(x, i, i, i % 4, Tell.by(0, FIRST, 0));
        }
        far("all stand", x, 1, 0, NONE, 0, 0, 15);
        for (int i = 0; i < 12; i++) {
            x.cut(i, 1, HACKED, NONE);
        }
        far("all are hacked", x, 1, 0, 11, NONE, 15, 0);
    }

    private static void farOfNone() {
        Check.says("NONE: no such HAND, NAME told, what, none (0, 1).");
        NamesUnder x = named();
        for (int i = 0; i < 6; i++) {
            wall(x, i, 5, 1, Tell.by(0, FIRST, 0), Tell.by(i, OUT, NONE));
        }
        wall(x, 7, 5, 1, Tell.by(0, FIRST, 0));
        wall(x, 8, 5, 1, Tell.by(0, FIRST, 1));
        for (int what = 0; what < 4; what++) {
            int w = what;
            Check.range("hand, what " + w, 0, 5, v -> x.far(v, 0, w) != NONE);
        }
        Check.range("name", 0, 1, v -> x.far(0, v, 1) != NONE);
        Check.range("name of sorts", 0, 1, v -> x.far(0, v, 2) != NONE);
        Check.range("what", 0, 3, v -> x.far(0, 0, v) != NONE);
        NamesUnder y = named();
        far("told, but nowhere", y, 0, 0, NONE, NONE, 0, 0);
        far("not told", y, 0, 2, NONE, NONE, NONE, NONE);
        far("no such name", y, 0, 8, NONE, NONE, NONE, NONE);
        far("no such hand", y, 6, 0, NONE, NONE, NONE, NONE);
        far("no such hand", y, -1, 0, NONE, NONE, NONE, NONE);
    }

    private static void farWhats() {
        Check.says("HOW FAR, what 0: the greatest HEIGHT done, 1: the least where it stands, 2: SORTS done, 3: SORTS where it stands");
        NamesUnder x = named();
        wall(x, 0, 30, 0, Tell.by(0, FIRST, 0), Tell.by(1, OUT, NONE));
        wall(x, 1, 40, 1, Tell.by(0, FIRST, 0), Tell.by(1, HACKED, NONE));
        wall(x, 2, 35, 2, Tell.by(0, FIRST, 0));
        wall(x, 3, 45, 3, Tell.by(0, FIRST, 0));
        far("two done, two left", x, 1, 0, 40, 35, 3, 12);
        far("another hand's part", x, 2, 0, NONE, 35, 0, 12);
        wall(x, 4, 10, 1, Tell.by(0, FIRST, 0), Tell.by(1, OUT, NONE), Tell.by(2, MENDED, 0));
        far("done and mended: it stands, too", x, 1, 0, 40, 10, 3, 14);
    }

    private static void blockRanges() {
        Check.says("BLOCKS 0 to 5 have a left and a right EDGE (0 to 999) and a course (0 to 9), GAPS 0 to 5 likewise.");
        for (boolean gap : new boolean[] {false, true}) {
            int least = gap ? 1 : 0;
            Check.range("number", 0, 5, v -> new NamesUnder().block(gap, v, 1, 1, 0));
            Check.range("left", least, 999, v -> new NamesUnder().block(gap, 0, v, 1, 0));
            Check.range("right", least, 999, v -> new NamesUnder().block(gap, 0, 1, v, 0));
            Check.range("course", 0, 9, v -> new NamesUnder().block(gap, 0, 1, 1, v));
        }
        NamesUnder x = new NamesUnder();
        for (int i = 0; i < 6; i++) {
            Check.same("blocks", x.count(4), i);
            Check.same("gaps", x.count(5), i);
            Check.same("back, not told", x.back(i), NONE);
            Check.so("block", x.block(false, i, 999, 999, 9));
            Check.same("back, told", x.back(i), 0);
            Check.so("gap", x.block(true, i, 1, 1, 0));
        }
        Check.same("six blocks", x.count(4), 6);
        Check.same("six gaps", x.count(5), 6);
    }

    private static void wornAndRefused() {
        Check.says("A BLOCK (gap false) or a GAP (true): EDGES (0 of a BLOCK: WORN), course: true; false: others (a GAP's EDGE 0).");
        NamesUnder x = new NamesUnder();
        Check.not("a gap's left edge", x.block(true, 0, 0, 1, 0));
        Check.not("a gap's right edge", x.block(true, 0, 1, 0, 0));
        Check.not("both of a gap", x.block(true, 0, 0, 0, 0));
        Check.so("a block's left edge", x.block(false, 0, 0, 1, 0));
        Check.so("a block's right edge", x.block(false, 1, 1, 0, 0));
        Check.so("both of a block", x.block(false, 2, 0, 0, 0));
        Check.same("no gap told by that", x.count(5), 0);
        Check.same("three blocks", x.count(4), 3);
        NamesUnder y = new NamesUnder();
        y.block(true, 0, 5, 6, 1);
        y.block(false, 0, 5, 6, 1);
        int[][] wrong = {{-1, 7, 7, 2}, {6, 7, 7, 2}, {0, -1, 7, 2}, {0, 1000, 7, 2}, {0, 7, -1, 2}, {0, 7, 1000, 2},
            {0, 7, 7, -1}, {0, 7, 7, 10}};
        for (int[] w : wrong) {
            Check.not("block", y.block(false, w[0], w[1], w[2], w[3]));
            Check.not("gap", y.block(true, w[0], w[1], w[2], w[3]));
            Check.same("as before", y.ways(0) * 10 + y.back(0), 11);
        }
        Check.not("a gap's edge", y.block(true, 0, 0, 6, 1));
        Check.same("as before", y.ways(0) * 10 + y.back(0), 11);
    }

    private static boolean isFitting(int left, int right, int course, int gapLeft, int gapRight) {
        NamesUnder x = new NamesUnder();
        x.block(true, 5, gapLeft, gapRight, 4);
        x.block(false, 0, left, right, course);
        boolean fits = x.ways(0) == 1;
        Check.same("sure", x.ways(1), fits ? 1 : 0);
        Check.same("back", x.back(0), fits ? 32 : 0);
        return fits;
    }

    private static void fitsGap() {
        Check.says("A BLOCK FITS a GAP if the courses are the same and both EDGES, or one EDGE, the other one of the BLOCK being WORN (told as 0).");
        int[] edges = {0, 1, 2, 998, 999};
        for (int left : edges) {
            for (int right : edges) {
                for (int gapLeft : new int[] {1, 2, 999}) {
                    for (int gapRight : new int[] {1, 998, 999}) {
                        boolean l = left == gapLeft;
                        boolean r = right == gapRight;
                        boolean due = (l && r) || (l && right == 0) || (r && left == 0);
                        Check.so(left + " " + right + " in " + gapLeft + " " + gapRight, isFitting(left, right, 4, gapLeft, gapRight) == due);
                    }
                }
            }
        }
        for (int course = 0; course < 10; course++) {
            Check.so("course " + course, isFitting(7, 8, course, 7, 8) == (course == 4));
            Check.so("worn, course " + course, isFitting(7, 0, course, 7, 8) == (course == 4));
        }
        Check.not("both worn", isFitting(0, 0, 4, 7, 8));
    }

    private static void ways() {
        Check.says("WAYS: each BLOCK that is told in another GAP that is told.");
        int due = 1;
        for (int number = 0; number <= 6; number++) {
            NamesUnder x = new NamesUnder();
            for (int i = 0; i < 6; i++) {
                x.block(true, i, 7, 8, 1);
            }
            for (int i = 0; i < number; i++) {
                x.block(false, 5 - i, 7, 8, 1);
            }
            Check.same("six gaps for " + number, x.ways(0), due);
            due *= 6 - number;
        }
        for (int gaps = 0; gaps <= 6; gaps++) {
            NamesUnder x = new NamesUnder();
            for (int i = 0; i < gaps; i++) {
                x.block(true, i, 7, 8, 1);
            }
            for (int i = 0; i < 3; i++) {
                x.block(false, i, 7, 8, 1);
            }
            Check.same(gaps + " gaps for three", x.ways(0), gaps * (gaps - 1) * (gaps - 2));
            Check.same("back", x.back(0), gaps < 3 ? 0 : (1 << gaps) - 1);
        }
    }

    private static void sure() {
        Check.says("SURE of a BLOCK: its GAP in all WAYS.");
        NamesUnder x = new NamesUnder();
        x.block(true, 0, 5, 6, 1);
        x.block(true, 5, 5, 7, 1);
        x.block(false, 5, 5, 0, 1);
        Check.same("either gap", x.ways(0) * 100 + x.ways(1), 200);
        Check.same("in some way", x.back(5), 33);
        x.block(false, 0, 5, 7, 1);
        Check.same("the other one is taken", x.ways(0) * 100 + x.ways(1), 133);
        Check.same("in some way", x.back(5), 1);
        x.block(true, 3, 5, 7, 1);
        // BLOCK 0 in GAP 3 or 5, BLOCK 5 in GAP 0 or in the other one of these.
        Check.same("none is sure", x.ways(0) * 100 + x.ways(1), 400);
        Check.same("in some way", x.back(5), 41);
        x.block(false, 3, 9, 9, 9);
        Check.same("no way, none is sure", x.ways(0) * 100 + x.ways(1), 0);
        Check.same("in no way", x.back(5), 0);
    }

    private static void waysOfNone() {
        Check.says("WAYS, what 0: how many (1 without a BLOCK), 1: BLOCKS that are SURE, as bits; NONE for another what.");
        NamesUnder x = new NamesUnder();
        Check.same("without a block", x.ways(0), 1);
        Check.same("none is sure", x.ways(1), 0);
        Check.range("what", 0, 1, v -> x.ways(v) != NONE);
        x.block(true, 0, 1, 1, 1);
        Check.same("a gap alone", x.ways(0), 1);
        x.block(false, 0, 2, 2, 2);
        Check.same("a block that fits none", x.ways(0), 0);
        Check.range("what without a way", 0, 1, v -> x.ways(v) != NONE);
        NamesUnder y = new NamesUnder();
        y.block(false, 0, 1, 1, 1);
        Check.same("a block without a gap", y.ways(0), 0);
    }

    private static void backOfNone() {
        Check.says("GAPS in which a BLOCK lies in some WAY, as bits; NONE: not told.");
        NamesUnder x = new NamesUnder();
        for (int i = 0; i < 6; i++) {
            Check.same("not told", x.back(i), NONE);
            x.block(true, i, i + 1, i + 1, 1);
            Check.same("a gap is not a block", x.back(i), NONE);
        }
        for (int i = 0; i < 6; i++) {
            x.block(false, i, 6 - i, 6 - i, 1);
        }
        Check.range("block", 0, 5, v -> x.back(v) != NONE);
        for (int i = 0; i < 6; i++) {
            Check.same("block " + i, x.back(i), 32 >> i);
        }
        for (int i = 0; i < 6; i++) {
            NamesUnder y = new NamesUnder();
            y.block(false, i, 7, 8, 1);
            y.block(true, 2, 7, 8, 1);
            Check.same("in one gap", y.back(i), 4);
            y.block(true, 4, 7, 8, 1);
            Check.same("in two", y.back(i), 20);
            y.block(true, 2, 7, 9, 1);
            Check.same("in the other one", y.back(i), 16);
            y.block(false, i, 7, 9, 1);
            Check.same("and back", y.back(i), 4);
            y.block(false, i, 7, 10, 1);
            Check.same("in none", y.back(i), 0);
        }
    }

    private static void counts() {
        Check.says("What 0: NAMES told, 1: PLACES, 2: CUTS, 3: LINES of ORDERS, 4: BLOCKS, 5: GAPS, 6: signs on the TAPE. NONE for another what.");
        NamesUnder x = new NamesUnder();
        Check.range("what", 0, 6, v -> x.count(v) == 0);
        Check.outside("what", 0, 6, v -> x.count(v) != NONE);
        int[] due = new int[7];
        for (int i = 0; i < 8; i++) {
            Tell.name(x, i, "a" + (char) ('a' + i));
            due[0]++;
            counted(x, due);
        }
        x.place(11, 6, 0, 0, 0);
        due[1]++;
        counted(x, due);
        int[] doings = {FIRST, OUT, PUT_IN, HACKED, MENDED, OUT};
        for (int doing : doings) {
            x.cut(11, 0, doing, NONE);
            due[2]++;
            counted(x, due);
        }
        for (int reign = 0; reign < 6; reign++) {
            Tell.order(x, reign, "out 0 when 1;".repeat(reign));
            due[3] += reign;
            counted(x, due);
            x.block(false, reign, 1, 1, 1);
            due[4]++;
            counted(x, due);
            x.block(true, reign, 1, 1, 1);
            due[5]++;
            counted(x, due);
            x.feed(0x20L, 0L, 0x0aL);
            due[6] = 2;
            counted(x, due);
            x.order(6);
            due[6] = 0;
            counted(x, due);
        }
    }

    private static void counted(NamesUnder x, int[] due) {
        for (int what = 0; what < 7; what++) {
            Check.same("count " + what, x.count(what), due[what]);
        }
    }

    private static void fullCounts() {
        Check.says("1: PLACES, 2: CUTS, 3: LINES of ORDERS");
        NamesUnder x = Tell.named("hati");
        for (int place = 0; place < 12; place++) {
            Tell.wall(x, place, 6, Tell.by(0, FIRST, 0), Tell.by(0, OUT, NONE), Tell.by(0, PUT_IN, 0), Tell.by(0, OUT, NONE),
                    Tell.by(0, MENDED, 0), Tell.by(0, HACKED, NONE));
        }
        Check.same("twelve places", x.count(1), 12);
        Check.same("72 cuts", x.count(2), 72);
        for (int reign = 0; reign < 6; reign++) {
            Tell.order(x, reign, "out 0 when 1;".repeat(12));
        }
        Check.same("72 lines", x.count(3), 72);
        Check.same("told anew", x.place(0, 6, 0, 0, 0) ? x.count(1) : NONE, 12);
        Check.same("66 cuts", x.count(2), 66);
    }

    private static void lastCall() {
        Check.says("An object is used for at most 512 calls after it has been made");
        NamesUnder x = new NamesUnder();
        for (int call = 1; call <= 511; call++) {
            Check.same("call " + call, call % 2 == 1 ? x.feed(0x20L, 0L, 0L) : x.count(6), (call + 1) / 2);
        }
        Check.same("call 512", x.feed(0x2020L, 0L, 0L), 258);
        NamesUnder y = Tell.named("hati");
        Tell.wall(y, 0, 6, Tell.by(0, FIRST, 0));
        // 3 calls have told the NAME, 2 the wall: 507 are left, of which the last one is the 512th.
        for (int left = 507; left > 1; left -= 2) {
            Check.same("out", y.cut(0, 1, OUT, NONE), 1);
            Check.so("gone again", y.clean(0));
        }
        Check.same("call 512", y.stories(0), 6);
    }

    public static void main(String[] args) {
        greatestDone();
        doneHigherUp();
        leastLeft();
        sorts();
        farOfNone();
        farWhats();
        blockRanges();
        wornAndRefused();
        fitsGap();
        ways();
        sure();
        waysOfNone();
        backOfNone();
        counts();
        fullCounts();
        lastCall();
        Check.end();
    }
}
