/** Promises 13 to 20: dated, stories, story, odds, between, stood, next, doubt. */
public final class StoriesTest {
    /** NAME 0 seti (WIDTH 6) of REIGN 2, NAME 1 teti (WIDTH 5) of REIGN 0, NAME 2 mmmmmmmm (24) of REIGN 0. */
    private static NamesUnder named() {
        NamesUnder x = new NamesUnder();
        Signs.feed(x, "seti");
        x.name(0, 2, false);
        Signs.feed(x, "teti");
        x.name(1, 0, true);
        Signs.feed(x, "mmmmmmmm");
        x.name(2, 0, true);
        return x;
    }

    /** A PLACE of SPACE 6 with CUTS, each a HAND, a DOING and a NAME. */
    private static void wall(NamesUnder x, int place, int[]... cuts) {
        x.place(place, 6, 0, 0, 0);
        for (int i = 0; i < cuts.length; i++) {
            Check.same("cut " + i + " at " + place, x.cut(place, cuts[i][0], cuts[i][1], cuts[i][2]), i);
        }
    }

    private static int[] cut(int hand, int doing, int name) {
        return new int[] {hand, doing, name};
    }

    private static void dated() {
        NamesUnder x = named();
        wall(x, 0, cut(2, 0, 0));
        Check.so("13: least", x.dated(2, 0));
        Check.same("13: ahead of the name", x.stories(0), 0);
        Check.so("13: most", x.dated(2, 5));
        Check.same("13: one", x.stories(0), 1);
        Check.so("13: another hand", x.dated(5, 0));
        Check.same("13: a hand without cuts is nothing", x.stories(0), 1);
        Check.same("13: nor has it a reign", x.story(0, 5), -1);
        Check.so("13: not dated", x.dated(2, -1));
        Check.same("13: free again", x.stories(0), 4);
        int[][] wrong = {{-1, 0}, {6, 0}, {2, 6}, {2, -2}, {Integer.MIN_VALUE, 0}, {2, Integer.MAX_VALUE}};
        for (int[] w : wrong) {
            Check.not("13: dated " + w[0] + " " + w[1], x.dated(w[0], w[1]));
        }
        Check.same("13: wrong ones change nothing", x.stories(0), 4);
    }

    private static void firstAlone() {
        NamesUnder x = named();
        wall(x, 0, cut(2, 0, 0));
        Check.same("14: from the name's reign on", x.stories(0), 4);
        Check.same("14: none sure", x.stories(1), 0);
        Check.same("14: hands", x.stories(2), 4);
        Check.same("14: another what", x.stories(3), -1);
        Check.same("14: another what", x.stories(-1), -1);
        for (int k = 0; k < 4; k++) {
            Check.same("15: story " + k, x.story(k, 2), 2 + k);
        }
        Check.same("15: no more", x.story(4, 2), -1);
        Check.same("15: no such", x.story(-1, 2), -1);
        Check.same("15: no such", x.story(Integer.MIN_VALUE, 2), -1);
        Check.same("15: no such", x.story(Integer.MAX_VALUE, 2), -1);
        Check.same("15: no cuts", x.story(0, 1), -1);
        Check.same("15: no such hand", x.story(0, 6), -1);
        Check.same("15: no such hand", x.story(0, -1), -1);
        Check.same("16: odds", x.odds(2, 1), 0);
        Check.same("16: odds", x.odds(2, 2), 1);
        Check.same("16: no cuts", x.odds(1, 2), -1);
        Check.same("16: no such hand", x.odds(6, 2), -1);
        Check.same("16: no such hand", x.odds(-1, 2), -1);
        Check.same("16: no such reign", x.odds(2, 6), -1);
        Check.same("16: no such reign", x.odds(2, -1), -1);
    }

    /** HAND 2 has REIGN a of 2 .. 5, HAND 4 REIGN b of 3 .. 5, not ahead of a: 3 + 3 + 2 + 1. */
    private static void outOverFirst() {
        NamesUnder x = named();
        wall(x, 0, cut(2, 0, 0), cut(4, 1, -1));
        Check.same("14: how many", x.stories(0), 9);
        int[][] due = {{2, 3}, {2, 4}, {2, 5}, {3, 3}, {3, 4}, {3, 5}, {4, 4}, {4, 5}, {5, 5}};
        for (int k = 0; k < 9; k++) {
            Check.same("15: story " + k, x.story(k, 2), due[k][0]);
            Check.same("15: story " + k, x.story(k, 4), due[k][1]);
        }
        int[] of2 = {0, 0, 3, 3, 2, 1};
        int[] of4 = {0, 0, 0, 2, 3, 4};
        for (int r = 0; r < 6; r++) {
            Check.same("16: odds of 2 in " + r, x.odds(2, r), of2[r]);
            Check.same("16: odds of 4 in " + r, x.odds(4, r), of4[r]);
        }
        Check.same("17: ahead or the same", x.between(2, 4), 3);
        Check.same("17: behind or the same", x.between(4, 2), 6);
        Check.same("17: itself", x.between(4, 4), 2);
        Check.same("17: no cuts", x.between(4, 0), -1);
        Check.same("17: no cuts", x.between(0, 4), -1);
        Check.same("17: no such", x.between(6, 4), -1);
        Check.same("17: no such", x.between(4, -1), -1);
        Check.same("19: hand", x.next(0), 2);
        Check.same("19: number", x.next(1), 3);
        Check.same("19: another what", x.next(2), -1);
        Check.same("19: another what", x.next(-1), -1);
        Check.same("20: there is a story", x.doubt(), -1);
    }

    private static void sureAndNone() {
        NamesUnder x = named();
        wall(x, 0, cut(2, 0, 0), cut(4, 1, -1));
        x.dated(4, 3);
        Check.same("14: two left", x.stories(0), 2);
        Check.same("14: the dated one is sure", x.stories(1), 16);
        Check.same("19: the other one", x.next(0), 2);
        Check.same("19: its number", x.next(1), 1);
        x.dated(2, 3);
        Check.same("14: both sure", x.stories(1), 20);
        Check.same("19: all dated", x.next(0), -1);
        Check.same("19: all dated", x.next(1), -1);
        x.dated(4, 2);
        Check.same("14: none", x.stories(0), 0);
        Check.same("14: none sure", x.stories(1), 0);
        Check.same("14: hands still", x.stories(2), 20);
        Check.same("15: none", x.story(0, 2), -1);
        Check.same("16: none", x.odds(4, 2), 0);
        Check.same("17: none", x.between(2, 4), 0);
        Check.same("18: none", x.stood(0, 0), -1);
        Check.same("19: none", x.next(0), -1);
        Check.same("20: without the out", x.doubt(), 1);
        Check.same("20: asking changes nothing", x.stories(0), 0);
    }

    private static void mended() {
        NamesUnder x = named();
        wall(x, 0, cut(2, 0, 0), cut(4, 1, -1), cut(1, 4, -1));
        // HAND 4 in 3: two of HAND 2, two of HAND 1; in 4: three and one.
        Check.same("14: mended is behind", x.stories(0), 7);
        Check.same("15: first by hand 1", x.story(0, 1), 4);
        Check.same("15: then by hand 2", x.story(2, 2) * 10 + x.story(2, 4), 23);
        Check.same("17: always behind", x.between(1, 4), 4);
        Check.same("17: not the same as what stood first", x.between(1, 2), 4);
        wall(x, 0, cut(2, 0, 0), cut(4, 1, -1), cut(4, 4, -1));
        Check.same("14: not by the same hand", x.stories(0), 0);
        Check.same("20: without the mended one", x.doubt(), 1);
        wall(x, 0, cut(2, 0, 1), cut(2, 1, -1), cut(3, 4, -1), cut(3, 2, -1));
        // HAND 2 in 1 .. 4, HAND 3 behind it.
        Check.same("14: hacked on mended, same hand", x.stories(0), 10);
    }

    private static void storyOrder() {
        NamesUnder x = named();
        wall(x, 0, cut(5, 0, 1));
        wall(x, 1, cut(0, 0, 1));
        wall(x, 2, cut(3, 0, 1));
        Check.same("14: all", x.stories(0), 216);
        Check.same("15: 0 first", x.story(215 - 36, 0), 4);
        Check.same("15: then 3", x.story(6, 3), 1);
        Check.same("15: then 5", x.story(6, 5), 0);
        Check.same("15: then 5", x.story(1, 5), 1);
        Check.same("19: of equal ones the first", x.next(0), 0);
        Check.same("19: a sixth", x.next(1), 36);
        x.dated(0, 1);
        Check.same("19: not a dated one", x.next(0), 3);
        Check.same("17: all three", x.between(3, 5), 7);
        for (int h = 0; h < 6; h++) {
            x.dated(h, -1);
            wall(x, h, cut(h, 0, 1));
        }
        Check.same("14: most", x.stories(0), 46656);
        Check.same("15: last", x.story(46655, 5), 5);
        Check.same("15: digits", x.story(46655 - 7776, 0), 4);
        Check.same("15: none behind the last", x.story(46656, 0), -1);
        Check.same("16: a sixth", x.odds(3, 3), 7776);
    }

    private static void notAhead() {
        NamesUnder x = named();
        wall(x, 0, cut(0, 0, 1), cut(1, 1, -1));
        wall(x, 1, cut(1, 0, 1), cut(0, 2, -1));
        Check.same("14: the same reign, 1 to 5", x.stories(0), 5);
        Check.same("17: the same alone", x.between(0, 1), 2);
        wall(x, 2, cut(0, 0, 1), cut(0, 2, -1), cut(3, 3, 0), cut(3, 1, -1));
        // HAND 3 is behind REIGN 2 and not ahead of HAND 0: 3 + 3 + 3 + 2 + 1.
        Check.same("14: put in and out", x.stories(0), 12);
        wall(x, 3, cut(3, 0, 1), cut(4, 2, -1), cut(0, 3, 1));
        // HAND 0 is behind all below it, too: then all four are of one REIGN, 3 to 5.
        Check.same("14: of cuts further below", x.stories(0), 3);
        Check.same("17: the same", x.between(4, 1), 2);
    }

    private static void changesAreSeen() {
        NamesUnder x = named();
        x.place(0, 6, 0, 0, 0);
        Check.same("14: without cuts", x.stories(0), 1);
        x.cut(0, 2, 0, 0);
        Check.same("14: a cut", x.stories(0), 4);
        x.cut(0, 4, 1, -1);
        Check.same("14: another cut", x.stories(0), 9);
        x.clean(0);
        Check.same("14: the cut is gone", x.stories(0), 4);
        Check.same("14: and its hand", x.stories(2), 4);
        Signs.feed(x, "seti");
        x.name(0, 1, false);
        Check.same("14: the name of another reign", x.stories(0), 5);
        x.place(0, 6, 0, 0, 0);
        Check.same("14: the place anew", x.stories(0), 1);
    }

    private static void noNameFits() {
        NamesUnder x = named();
        wall(x, 0, cut(0, 0, 2));
        Check.same("14: too wide", x.stories(0), 0);
        Check.same("20: without it", x.doubt(), 1);
        wall(x, 0, cut(0, 0, 1), cut(0, 2, -1), cut(1, 3, 2));
        Check.same("14: put in too wide", x.stories(0), 0);
        wall(x, 0, cut(0, 0, -1), cut(1, 1, -1), cut(2, 4, 2));
        Check.same("14: mended too wide", x.stories(0), 0);
        wall(x, 0, cut(0, 0, 1), cut(1, 1, -1), cut(2, 4, -1));
        Check.same("14: sound", x.stories(0), 30);
        Signs.feed(x, "s...");
        x.traces(0, 0);
        Check.same("14: traces of another name", x.stories(0), 0);
        Check.same("20: not without one, the mended", x.doubt(), -1);
        x.clean(0);
        Check.same("20: the traces go with the out", x.doubt(), 1);
    }

    private static void outNeedsOneAhead() {
        NamesUnder x = named();
        wall(x, 0, cut(0, 0, -1), cut(1, 1, -1));
        x.dated(0, 1);
        x.dated(1, 1);
        Check.same("14: teti for both", x.stories(0), 1);
        Signs.feed(x, "s...");
        x.traces(0, 0);
        Check.same("14: seti for none", x.stories(0), 0);
        x.dated(0, 2);
        x.dated(1, 2);
        Check.same("14: seti is not ahead of 2", x.stories(0), 0);
        x.dated(1, 3);
        Check.same("14: but of 3", x.stories(0), 1);
        Signs.feed(x, "seti");
        x.name(0, 3, false);
        Check.same("14: told anew of 3", x.stories(0), 0);
    }

    private static void stood() {
        NamesUnder x = named();
        wall(x, 0, cut(0, 0, -1), cut(1, 1, -1));
        x.dated(1, 1);
        Check.same("18: seti is not ahead of 1", x.stood(0, 0), 2);
        x.dated(1, 2);
        Check.same("18: nor of 2", x.stood(0, 0), 2);
        x.dated(1, 3);
        Check.same("18: but of 3", x.stood(0, 0), 3);
        x.dated(0, 1);
        Check.same("18: not in hand 0's reign", x.stood(0, 0), 2);
        x.dated(0, 2);
        Check.same("18: in hand 0's reign", x.stood(0, 0), 3);
        Check.same("18: out", x.stood(0, 1), -1);
        Check.same("18: no such", x.stood(0, 2), -1);
        Check.same("18: no such", x.stood(0, -1), -1);
        Check.same("18: no such", x.stood(1, 0), -1);
        Check.same("18: no such", x.stood(12, 0), -1);
        x.clean(0);
        x.dated(0, 1);
        Check.same("18: nothing over it", x.stood(0, 0), 2);
        x.dated(0, -1);
        Check.same("18: nothing over it", x.stood(0, 0), 3);
        x.cut(0, 1, 1, -1);
        Signs.feed(x, "..t.");
        x.traces(0, 0);
        Check.same("18: by its traces", x.stood(0, 0), 3);
        Signs.feed(x, "t...");
        x.traces(0, 0);
        Check.same("18: by its traces", x.stood(0, 0), 2);
    }

    private static void stoodMended() {
        NamesUnder x = named();
        wall(x, 0, cut(0, 0, -1), cut(1, 2, -1), cut(2, 4, -1));
        x.dated(0, 0);
        x.dated(1, 1);
        x.dated(2, 2);
        Check.same("18: first", x.stood(0, 0), 2);
        Check.same("18: mended, its hand's reign is nothing", x.stood(0, 2), 3);
        x.dated(2, 5);
        x.cut(0, 3, 1, -1);
        x.dated(3, 5);
        Check.same("18: mended, ahead of what is over it", x.stood(0, 2), 3);
        wall(x, 1, cut(0, 0, -1), cut(1, 2, -1), cut(1, 3, -1));
        Check.same("18: put in, its hand's reign", x.stood(1, 2), 2);
    }

    private static void doubtOfTwo() {
        NamesUnder x = named();
        wall(x, 0, cut(0, 0, 2));
        wall(x, 1, cut(3, 0, 2));
        Check.same("20: two", x.doubt(), 3);
        Check.same("20: hands as before", x.stories(2), 9);
        Check.same("20: no story as before", x.stories(0), 0);
        Check.same("20: nothing between them as before", x.between(0, 3), 0);
        x.place(1, 6, 0, 0, 0);
        wall(x, 5, cut(0, 0, 2));
        Check.same("20: two", x.doubt(), 33);
        wall(x, 11, cut(0, 0, 2));
        Check.same("20: three are too many", x.doubt(), -1);
        x = named();
        wall(x, 1, cut(0, 0, 1), cut(1, 1, -1));
        wall(x, 2, cut(1, 0, 1), cut(2, 2, -1), cut(0, 4, 1));
        Check.same("20: no story", x.stories(0), 0);
        Check.same("20: the first place", x.doubt(), 2);
        x = named();
        for (int p : new int[] {0, 5}) {
            wall(x, p, cut(0, 0, 1), cut(0, 2, -1), cut(1, 4, 1));
        }
        for (int p : new int[] {1, 2}) {
            wall(x, p, cut(1, 0, 1), cut(0, 1, -1));
        }
        Check.same("20: of 0 and 5, 1 and 2 the first by places", x.doubt(), 33);
        Check.same("20: walls stay", x.count(2), 10);
    }

    public static void main(String[] args) {
        dated();
        firstAlone();
        outOverFirst();
        sureAndNone();
        mended();
        storyOrder();
        notAhead();
        changesAreSeen();
        noNameFits();
        outNeedsOneAhead();
        stood();
        stoodMended();
        doubtOfTwo();
        Check.end();
    }
}
